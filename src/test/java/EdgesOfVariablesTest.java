/** A test for each sentence of promises 14 to 16 that names a limit: find, setMid and swap. */
public final class EdgesOfVariablesTest {
    private static final String FORTY = Checks.some(40);
    private static final String EMPTY_PILE = "empty pile answers TOO_FEW";

    private static final Checks checks = new Checks();

    public static void main(String[] args) {
        sentences();
        checks.end();
    }

    static void sentences() {
        findTheLeastPlace();
        findNone();
        findAnEmptyString();
        findOutOfRange();
        setMidAsManyAsThereIsRoomFor();
        setMidBeyondTheEnd();
        setMidTakesTheTop();
        setMidOutOfRange();
        setMidOfAnEmptyPile();
        setMidOrder();
        setMidAnswersTheNumber();
        setMidChangesNothingElse();
        swapOutOfRange();
        swapAnswersZero();
    }

    /** The answer for variables at both ends of their range, and that nothing changes by it. */
    private static void found(String text, String part, int want) {
        int[][] pairs = {{0, 5}, {5, 0}, {2, 3}};
        for (int[] pair : pairs) {
            checks.unchanged("find of " + part + " in " + text, want, o -> {
                Checks.setAnew(o, pair[0], text);
                Checks.setAnew(o, pair[1], part);
                Checks.put(o, "pile");
            }, o -> o.find(pair[0], pair[1]));
        }
    }

    private static void findTheLeastPlace() {
        checks.sentence("Promise 14", "The least i >= 1 such that the characters of variable u from number i on begin "
                + "with those of variable v");
        found("b", "b", 1);
        found(FORTY, FORTY, 1);
        found(FORTY, FORTY.substring(0, 39), 1);
        found(FORTY, FORTY.substring(1), 2);
        found(FORTY, FORTY.substring(39), 40);
        found("b".repeat(39) + "c", "c", 40);
        found("b".repeat(39) + "c", "bc", 39);
        found("b".repeat(40), "b", 1);
        found("ccbcb", "cb", 2);
        found("\u0000\u00ff", "\u0000", 1);
        found("\u0000\u00ff", "\u00ff", 2);
        BasicStrings x = Checks.made(Checks.state(0, 50));
        checks.due("find(0, 0)", x.find(0, 0), 1);
        checks.due("find(5, 5)", x.find(5, 5), 1);
    }

    private static void findNone() {
        checks.sentence("Promise 14", "0 if there is none");
        found("b", "c", 0);
        found("", "b", 0);
        found("", "\u0000", 0);
        found("b", "ba", 0);
        found("b", "\u0000", 0);
        found("cb", "ba", 0);
        found("cb", "bb", 0);
        found(FORTY.substring(0, 39), FORTY, 0);
        found(FORTY.substring(1), FORTY, 0);
        found(FORTY, FORTY.substring(1) + FORTY.charAt(0), 0);
        found("b".repeat(40), "b".repeat(39) + "c", 0);
    }

    private static void findAnEmptyString() {
        checks.sentence("Promise 14", "(For an empty v: 1 if u is not empty, else 0.)");
        found("b", "", 1);
        found("\u0000", "", 1);
        found(FORTY, "", 1);
        found("", "", 0);
        checks.due("find(0, 0) of nothing", new BasicStrings().find(0, 0), 0);
    }

    private static void findOutOfRange() {
        checks.sentence("Promise 14", "BAD_ARG if u or v is not 0 to 5.");
        BasicStrings x = Checks.made(Checks.state(2, 50));
        checks.due("find(0, 5)", x.find(0, 5), 0);
        checks.due("find(5, 0)", x.find(5, 0), 0);
        checks.badArgs("find(#, 0)", Checks.NO_VARIABLES, Checks.state(2, 50), (o, u) -> o.find(u, 0));
        checks.badArgs("find(5, #)", Checks.NO_VARIABLES, Checks.state(2, 50), (o, v) -> o.find(5, v));
        checks.badArgs("find(#, #)", Checks.NO_VARIABLES, Checks.state(2, 50), (o, v) -> o.find(v, v));
    }

    /** Replaces in variable v, and tells what is not as it was before. */
    private static void replaced(int v, String text, int i, String by, int count) {
        String name = "setMid(" + v + ", " + i + ") of " + text + " by " + by;
        String kept = text.substring(0, Math.min(i - 1, text.length()));
        String want = kept + by.substring(0, count) + text.substring(kept.length() + count);
        BasicStrings x = new BasicStrings();
        Checks.set(x, (v + 1) % 6, "next");
        Checks.set(x, (v + 5) % 6, "last");
        Checks.set(x, v, text);
        Checks.put(x, "below", by);
        checks.due(name, x.setMid(v, i), count);
        checks.due("used() after " + name, x.used(), 13 + text.length());
        checks.due("the pile after " + name, Checks.emptied(x), "|below|");
        checks.due("the variable after " + name, Checks.variable(x, v), want);
        checks.due("the next variable after " + name, Checks.variable(x, (v + 1) % 6), "next");
        checks.due("the one before after " + name, Checks.variable(x, (v + 5) % 6), "last");
    }

    private static void setMidAsManyAsThereIsRoomFor() {
        checks.sentence("Promise 15",
                "replaced, one for one, by those of the top string, as many as both have room for");
        for (int v : new int[] {0, 3, 5}) {
            replaced(v, "abcde", 1, "VWXY", 4);
            replaced(v, "abcde", 1, "VWXYZ", 5);
            replaced(v, "abcde", 1, "UVWXYZ", 5);
            replaced(v, "abcde", 4, "X", 1);
            replaced(v, "abcde", 4, "XY", 2);
            replaced(v, "abcde", 4, "XYZ", 2);
            replaced(v, "abcde", 5, "XY", 1);
            replaced(v, "abcde", 5, "", 0);
            replaced(v, "a".repeat(40), 40, "XY", 1);
            replaced(v, "a".repeat(40), 39, "XYZ", 2);
        }
    }

    private static void setMidBeyondTheEnd() {
        checks.sentence("Promise 15", "(none if i is greater than the length of v)");
        for (int v : new int[] {0, 3, 5}) {
            replaced(v, "abcde", 5, "X", 1);
            for (int i : new int[] {6, 7, 39, 40, 41, 42, 81, 254, 255}) {
                replaced(v, "abcde", i, "XY", 0);
                replaced(v, "", i, "XY", 0);
            }
            replaced(v, "", 1, "XY", 0);
            replaced(v, FORTY, 41, "XY", 0);
            replaced(v, FORTY, 42, "XY", 0);
            replaced(v, FORTY, 255, "XY", 0);
        }
    }

    private static void setMidTakesTheTop() {
        checks.sentence("Promise 15", "the top string is taken off the pile");
        BasicStrings x = Checks.made(Checks.state(4, 100));
        for (int strings = 3; strings >= 0; strings--) {
            // Even where nothing is replaced.
            checks.due("setMid(0, 255)", x.setMid(0, 255), 0);
            checks.due("pile()", x.pile(), strings);
            checks.due("used()", x.used(), 96 + strings);
        }
        checks.due("setMid(0, 255) with none left", x.setMid(0, 255), Checks.TOO_FEW);
    }

    private static void setMidOutOfRange() {
        checks.sentence("Promise 15", "v not 0 to 5 or i not 1 to 255 answers BAD_ARG");
        BasicStrings x = Checks.made(Checks.state(4, 50));
        checks.due("setMid(0, 1)", x.setMid(0, 1), 1);
        checks.due("setMid(5, 1)", x.setMid(5, 1), 1);
        checks.due("setMid(0, 255)", x.setMid(0, 255), 0);
        checks.due("setMid(5, 255)", x.setMid(5, 255), 0);
        checks.badArgs("setMid(#, 1)", Checks.NO_VARIABLES, Checks.state(2, 50), (o, v) -> o.setMid(v, 1));
        checks.badArgs("setMid(0, #)", Checks.NO_PLACES, Checks.state(2, 50), (o, i) -> o.setMid(0, i));
        checks.badArgs("setMid(5, #)", Checks.NO_PLACES, Checks.state(4, 100), (o, i) -> o.setMid(5, i));
        checks.badArgs("setMid(6, #)", Checks.NO_PLACES, Checks.state(2, 50), (o, i) -> o.setMid(6, i));
    }

    private static void setMidOfAnEmptyPile() {
        checks.sentence("Promise 15", EMPTY_PILE);
        checks.due("setMid(0, 1) by the only string", Checks.made(Checks.state(1, 50)).setMid(0, 1), 1);
        checks.refused("setMid(0, 1)", Checks.TOO_FEW, Checks.state(0, 50), o -> o.setMid(0, 1));
        checks.refused("setMid(5, 1)", Checks.TOO_FEW, Checks.state(0, 50), o -> o.setMid(5, 1));
        checks.refused("setMid(0, 255)", Checks.TOO_FEW, Checks.state(0, 100), o -> o.setMid(0, 255));
    }

    private static void setMidOrder() {
        checks.sentence("Promise 15",
                "Tested in this order: v not 0 to 5 or i not 1 to 255 answers BAD_ARG; " + EMPTY_PILE + ".");
        checks.badArgs("setMid(#, 1) of an empty pile", Checks.NO_VARIABLES, Checks.state(0, 50),
                (o, v) -> o.setMid(v, 1));
        checks.badArgs("setMid(0, #) of an empty pile", Checks.NO_PLACES, Checks.state(0, 50),
                (o, i) -> o.setMid(0, i));
    }

    private static void setMidAnswersTheNumber() {
        checks.sentence("Promise 15", "Otherwise the number of characters replaced.");
        for (int length : new int[] {0, 1, 5, 39, 40}) {
            for (int i : new int[] {1, 2, length + 1, length + 2, 40, 41, 255}) {
                for (int by : new int[] {0, 1, 39, 40}) {
                    int count = Math.max(0, Math.min(by, length - i + 1));
                    replaced(2, Checks.some(length), i, Checks.some(90, by), count);
                }
            }
        }
    }

    private static void setMidChangesNothingElse() {
        checks.sentence("Promise 15", "No other variable and no string on the pile is changed by this.");
        BasicStrings x = new BasicStrings();
        // The same string everywhere, which must not be one and the same.
        Checks.set(x, 0, "same text");
        for (int v = 1; v < 6; v++) {
            x.push(0);
            x.let(v);
        }
        for (int k = 0; k < 3; k++) {
            x.push(0);
        }
        Checks.put(x, "XYZ");
        checks.due("setMid(3, 4)", x.setMid(3, 4), 3);
        for (int v = 0; v < 6; v++) {
            checks.due("variable " + v, Checks.variable(x, v), v == 3 ? "samXYZext" : "same text");
        }
        checks.due("setMid(3, 6) by the text before", x.setMid(3, 6), 4);
        checks.due("variable 3", Checks.variable(x, 3), "samXYsame");
        checks.due("the pile", Checks.emptied(x), "|same text|same text|");
        x.push(3);
        checks.due("setMid(3, 1) by its own text", x.setMid(3, 1), 9);
        x.push(3);
        checks.due("setMid(3, 2) by its own text", x.setMid(3, 2), 8);
        checks.due("variable 3", Checks.variable(x, 3), "ssamXYsam");
    }

    private static void swapOutOfRange() {
        checks.sentence("Promise 16", "BAD_ARG if u or v is not 0 to 5");
        BasicStrings x = Checks.made(o -> Checks.set(o, 0, FORTY));
        checks.due("swap(0, 5)", x.swap(0, 5), 0);
        checks.due("variable 0", Checks.variable(x, 0), "");
        checks.due("variable 5", Checks.variable(x, 5), FORTY);
        checks.badArgs("swap(#, 0)", Checks.NO_VARIABLES, Checks.state(2, 50), (o, u) -> o.swap(u, 0));
        checks.badArgs("swap(5, #)", Checks.NO_VARIABLES, Checks.state(2, 50), (o, v) -> o.swap(5, v));
        checks.badArgs("swap(#, #)", Checks.NO_VARIABLES, Checks.state(4, 100), (o, v) -> o.swap(v, v));
    }

    private static void swapAnswersZero() {
        checks.sentence("Promise 16", "otherwise 0");
        for (int u = 0; u < 6; u++) {
            for (int v = 0; v < 6; v++) {
                swapped(u, v);
            }
        }
    }

    /** The swap of strings of different lengths, the shortest and the longest among them, in a full store. */
    private static void swapped(int u, int v) {
        int[] lengths = {40, 0, 1, 39, 7, 13};
        String[] want = new String[6];
        BasicStrings x = new BasicStrings();
        for (int k = 0; k < 6; k++) {
            want[k] = Checks.some(20 * k, lengths[k]);
            Checks.set(x, k, want[k]);
        }
        String kept = want[u];
        want[u] = want[v];
        want[v] = kept;
        checks.due("swap(" + u + ", " + v + ")", x.swap(u, v), 0);
        for (int k = 0; k < 6; k++) {
            checks.due("variable " + k, Checks.variable(x, k), want[k]);
        }
        checks.due("used()", x.used(), 100);
    }
}
