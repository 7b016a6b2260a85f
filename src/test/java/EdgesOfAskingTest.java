/** A test for each sentence of promises 17 to 22 that names a limit: what is asked without a change. */
public final class EdgesOfAskingTest {
    private static final String FORTY = Checks.some(1, 40);
    private static final int[] NEVER_PLACES = {0, -1, 41, 42, 81, 255, 256, 257, Checks.LEAST, Checks.LEAST + 1,
        Checks.GREATEST};

    private static final Checks checks = new Checks();

    public static void main(String[] args) {
        sentences();
        checks.end();
    }

    static void sentences() {
        lengthOfAVariable();
        lengthOutOfRange();
        atTheFirstPlace();
        atNoPlaceOrNoVariable();
        pileFromNoneToFour();
        topLength();
        topLengthOfAnEmptyPile();
        topAtTheFirstPlace();
        topAtNoPlace();
        used();
    }

    private static void lengthOfAVariable() {
        checks.sentence("Promise 17", "The length of the string of variable v");
        for (int v = 0; v < 6; v++) {
            int variable = v;
            for (int count : new int[] {0, 1, 39, 40}) {
                checks.unchanged("length(" + v + ")", count, o -> Checks.set(o, variable, Checks.some(count)),
                        o -> o.length(variable));
            }
        }
    }

    private static void lengthOutOfRange() {
        checks.sentence("Promise 17", "BAD_ARG if v is not 0 to 5.");
        checks.unchanged("length(0)", 8, Checks.state(2, 50), o -> o.length(0));
        checks.unchanged("length(5)", 8, Checks.state(2, 50), o -> o.length(5));
        checks.badArgs("length(#)", Checks.NO_VARIABLES, Checks.state(0, 50), BasicStrings::length);
        checks.badArgs("length(#) with 4", Checks.NO_VARIABLES, Checks.state(4, 100), BasicStrings::length);
    }

    private static void atTheFirstPlace() {
        checks.sentence("Promise 18", "Character number i (1 is the first) of variable v");
        for (int v = 0; v < 6; v++) {
            int variable = v;
            BasicStrings x = Checks.made(o -> Checks.set(o, variable, FORTY));
            for (int i = 1; i <= 40; i++) {
                checks.due("at(" + v + ", " + i + ")", x.at(v, i), (int) FORTY.charAt(i - 1));
            }
        }
        checks.unchanged("at(5, 8)", 107 * 51 % 256, Checks.state(2, 50), o -> o.at(5, 8));
    }

    private static void atNoPlaceOrNoVariable() {
        checks.sentence("Promise 18", "0 if there is none or v is not 0 to 5.");
        // No character is 0 here, so that a 0 tells that there is none.
        for (int v = 0; v < 6; v++) {
            BasicStrings x = new BasicStrings();
            for (int k = 0; k < 6; k++) {
                Checks.setAnew(x, k, FORTY.substring(0, 12));
            }
            checks.due("at(" + v + ", 12)", x.at(v, 12), (int) FORTY.charAt(11));
            checks.due("at(" + v + ", 13)", x.at(v, 13), 0);
            checks.due("at(" + v + ", 40)", x.at(v, 40), 0);
            Checks.set(x, v, "");
            checks.due("at(" + v + ", 1) of nothing", x.at(v, 1), 0);
            Checks.set(x, v, FORTY);
            checks.due("at(" + v + ", 40) of 40", x.at(v, 40), (int) FORTY.charAt(39));
            for (int i : NEVER_PLACES) {
                checks.due("at(" + v + ", " + i + ") of 40", x.at(v, i), 0);
            }
        }
        for (int v : Checks.NO_VARIABLES) {
            for (int i : new int[] {1, 2, 0, -1, 40, 41, Checks.LEAST, Checks.GREATEST}) {
                checks.unchanged("at(" + v + ", " + i + ")", 0, Checks.state(4, 100), o -> o.at(v, i));
            }
        }
    }

    private static void pileFromNoneToFour() {
        checks.sentence("Promise 19", "The number of strings on the pile.");
        for (int strings = 0; strings <= 4; strings++) {
            checks.unchanged("pile()", strings, Checks.state(strings, 50), BasicStrings::pile);
            checks.unchanged("pile() with 100 used", strings, Checks.state(strings, 100), BasicStrings::pile);
        }
        BasicStrings x = new BasicStrings();
        for (int strings = 1; strings <= 4; strings++) {
            x.repeat(0, 0);
            checks.due("pile() of empty strings", x.pile(), strings);
        }
        x.repeat(0, 0);
        checks.due("pile() after a fifth was refused", x.pile(), 4);
    }

    private static void topLength() {
        checks.sentence("Promise 20", "The length of the top string");
        for (int below = 0; below < 4; below++) {
            for (int count : new int[] {0, 1, 39, 40}) {
                int strings = below;
                checks.unchanged("topLength()", count, o -> {
                    Checks.state(strings, 60).accept(o);
                    Checks.put(o, Checks.some(count));
                }, BasicStrings::topLength);
            }
        }
    }

    private static void topLengthOfAnEmptyPile() {
        checks.sentence("Promise 20", "TOO_FEW if the pile is empty.");
        BasicStrings x = new BasicStrings();
        x.repeat(0, 0);
        checks.due("topLength() of nothing", x.topLength(), 0);
        x.drop();
        checks.due("topLength() after the last", x.topLength(), Checks.TOO_FEW);
        checks.refused("topLength()", Checks.TOO_FEW, Checks.state(0, 50), BasicStrings::topLength);
    }

    private static void topAtTheFirstPlace() {
        checks.sentence("Promise 21", "Character number i (1 is the first) of the top string");
        for (int below = 0; below < 4; below++) {
            BasicStrings x = Checks.made(Checks.state(below, 60));
            Checks.put(x, FORTY);
            for (int i = 1; i <= 40; i++) {
                checks.due("topAt(" + i + ")", x.topAt(i), (int) FORTY.charAt(i - 1));
            }
        }
        checks.unchanged("topAt(1)", 203 * 51 % 256, Checks.state(4, 100), o -> o.topAt(1));
    }

    private static void topAtNoPlace() {
        checks.sentence("Promise 21", "0 if there is none.");
        BasicStrings x = Checks.made(o -> Checks.put(o, FORTY, FORTY));
        x.left(12);
        checks.due("topAt(12)", x.topAt(12), (int) FORTY.charAt(11));
        checks.due("topAt(13)", x.topAt(13), 0);
        checks.due("topAt(40)", x.topAt(40), 0);
        x.left(0);
        checks.due("topAt(1) of nothing", x.topAt(1), 0);
        x.drop();
        checks.due("topAt(40) of 40", x.topAt(40), (int) FORTY.charAt(39));
        for (int i : NEVER_PLACES) {
            checks.due("topAt(" + i + ") of 40", x.topAt(i), 0);
        }
        x.drop();
        checks.due("topAt(1) after the last", x.topAt(1), 0);
        for (int i : new int[] {1, 2, 40, 0, -1, 41, 255, Checks.LEAST, Checks.GREATEST}) {
            checks.unchanged("topAt(" + i + ") of an empty pile", 0, Checks.state(0, 100), o -> o.topAt(i));
        }
    }

    private static void used() {
        checks.sentence("Promise 22", "USED.");
        for (int used : new int[] {0, 1, 99, 100}) {
            checks.unchanged("used()", used, Checks.state(0, used), BasicStrings::used);
        }
        for (int used : new int[] {4, 5, 99, 100}) {
            checks.unchanged("used() with 4", used, Checks.state(4, used), BasicStrings::used);
        }
        BasicStrings x = Checks.made(Checks.state(3, 100));
        x.repeat(1, 7);
        checks.due("used() after a refusal", x.used(), 100);
    }
}
