import java.util.function.IntBinaryOperator;
import java.util.function.ToIntBiFunction;
import java.util.function.ToIntFunction;

/** A test for each sentence of promises 6 to 11 and 13 that names a limit: what takes strings off or cuts them. */
public final class EdgesOfTakingTest {
    private static final String FORTY = Checks.some(40);
    private static final int[] LENGTHS = {0, 1, 39, 40};
    private static final String EMPTY_PILE = "empty pile answers TOO_FEW";

    private static final Checks checks = new Checks();

    public static void main(String[] args) {
        sentences();
        checks.end();
    }

    static void sentences() {
        letForgetsWhatWasHeld();
        letOutOfRange();
        letOfAnEmptyPile();
        letOrder();
        letAnswersTheLength();
        dropOfAnEmptyPile();
        dropAnswersTheLength();
        joinOfFewerThanTwo();
        joinTooLong();
        joinOrder();
        joinLeavesUsed();
        joinAnswersTheLength();
        leftOfFewer();
        leftOutOfRange();
        leftOfAnEmptyPile();
        leftOrder();
        leftAnswersTheLength();
        rightKeepsTheLast();
        rightIsOtherwiseAsLeft();
        midFromTheFirst();
        midOfFewer();
        midOutOfRange();
        midOfAnEmptyPile();
        midOrder();
        midAnswersTheLength();
        compareOfTheSame();
        compareOfABeginning();
        compareWhereTheyDiffer();
        compareOfFewerThanTwo();
    }

    private static void letForgetsWhatWasHeld() {
        checks.sentence("Promise 6", "what the variable held is gone");
        for (int held : LENGTHS) {
            for (int count : LENGTHS) {
                BasicStrings x = new BasicStrings();
                Checks.set(x, 3, Checks.some(held));
                Checks.put(x, Checks.some(90, count));
                checks.due("let(3) over " + held, x.let(3), count);
                checks.due("variable 3", Checks.variable(x, 3), Checks.some(90, count));
                checks.due("at(3) beyond its end", x.at(3, count + 1), 0);
                checks.due("used()", x.used(), count);
            }
        }
        BasicStrings full = Checks.made(o -> Checks.use(o, 60));
        full.repeat(40, 7);
        checks.due("let(0) with 100 used", full.let(0), 40);
        checks.due("used() after let(0)", full.used(), 60);
    }

    private static void letOutOfRange() {
        checks.sentence("Promise 6", "v not 0 to 5 answers BAD_ARG");
        BasicStrings x = Checks.made(o -> Checks.put(o, "five", "zero"));
        checks.due("let(0)", x.let(0), 4);
        checks.due("let(5)", x.let(5), 4);
        checks.due("variable 0", Checks.variable(x, 0), "zero");
        checks.due("variable 5", Checks.variable(x, 5), "five");
        checks.badArgs("let(#)", Checks.NO_VARIABLES, Checks.state(2, 50), BasicStrings::let);
        checks.badArgs("let(#) with 4", Checks.NO_VARIABLES, Checks.state(4, 100), BasicStrings::let);
    }

    private static void letOfAnEmptyPile() {
        checks.sentence("Promise 6", EMPTY_PILE);
        BasicStrings x = Checks.made(Checks.state(1, 50));
        checks.due("let(4) of the only string", x.let(4), 1);
        checks.due("let(4) after that", x.let(4), Checks.TOO_FEW);
        for (int v = 0; v < 6; v++) {
            int variable = v;
            checks.refused("let(" + v + ")", Checks.TOO_FEW, Checks.state(0, 50), o -> o.let(variable));
        }
    }

    private static void letOrder() {
        checks.sentence("Promise 6", "Tested in this order: v not 0 to 5 answers BAD_ARG; " + EMPTY_PILE + ".");
        checks.badArgs("let(#) of an empty pile", Checks.NO_VARIABLES, Checks.state(0, 50), BasicStrings::let);
    }

    private static void letAnswersTheLength() {
        checks.sentence("Promise 6", "Otherwise the length of the string.");
        for (int count : LENGTHS) {
            BasicStrings x = Checks.made(o -> Checks.put(o, Checks.some(count)));
            checks.due("let(2) of " + count, x.let(2), count);
            checks.due("pile()", x.pile(), 0);
        }
    }

    private static void dropOfAnEmptyPile() {
        checks.sentence("Promise 7", "TOO_FEW if it is empty.");
        BasicStrings x = Checks.made(Checks.state(4, 50));
        for (int strings = 4; strings >= 1; strings--) {
            checks.due("drop() with " + strings, x.drop(), 1);
            checks.due("pile()", x.pile(), strings - 1);
        }
        checks.due("drop() with none left", x.drop(), Checks.TOO_FEW);
        checks.refused("drop()", Checks.TOO_FEW, Checks.state(0, 50), BasicStrings::drop);
    }

    private static void dropAnswersTheLength() {
        checks.sentence("Promise 7", "Otherwise the length of the string.");
        for (int count : LENGTHS) {
            BasicStrings x = Checks.made(o -> Checks.put(o, "below", Checks.some(count)));
            checks.due("drop() of " + count, x.drop(), count);
            checks.due("the pile", Checks.emptied(x), "|below|");
        }
    }

    private static void joinOfFewerThanTwo() {
        checks.sentence("Promise 8", "fewer than two answers TOO_FEW");
        checks.due("join() of two", Checks.made(Checks.state(2, 50)).join(), 2);
        checks.refused("join() of one", Checks.TOO_FEW, Checks.state(1, 50), BasicStrings::join);
        checks.refused("join() of one of 40", Checks.TOO_FEW, o -> {
            Checks.use(o, 60);
            Checks.put(o, FORTY);
        }, BasicStrings::join);
        checks.refused("join() of none", Checks.TOO_FEW, Checks.state(0, 50), BasicStrings::join);
    }

    private static void joinTooLong() {
        checks.sentence("Promise 8", "fewer than two answers TOO_FEW; LONG.");
        BasicStrings x = Checks.made(o -> Checks.put(o, "below", Checks.some(19), Checks.some(19, 21)));
        checks.due("join() up to 40", x.join(), 40);
        checks.due("the pile", Checks.emptied(x), "|" + FORTY + "|below|");
        checks.refused("join() up to 41", Checks.LONG,
                o -> Checks.put(o, "below", Checks.some(20), Checks.some(20, 21)), BasicStrings::join);
        checks.refused("join() up to 80", Checks.LONG, o -> Checks.put(o, "below", FORTY, FORTY), BasicStrings::join);
    }

    private static void joinOrder() {
        checks.sentence("Promise 8", "Tested in this order: fewer than two answers TOO_FEW; LONG.");
        checks.refused("join() of one of 40 after longer ones", Checks.TOO_FEW, o -> {
            Checks.put(o, FORTY, FORTY);
            o.drop();
        }, BasicStrings::join);
        checks.refused("join() of none after longer ones", Checks.TOO_FEW, o -> {
            Checks.put(o, FORTY, FORTY);
            o.compare();
        }, BasicStrings::join);
    }

    private static void joinLeavesUsed() {
        checks.sentence("Promise 8", "(USED stays the same.)");
        for (int used : new int[] {2, 99, 100}) {
            BasicStrings x = Checks.made(Checks.state(2, used));
            checks.due("join() with " + used + " used", x.join(), 2);
            checks.due("used()", x.used(), used);
        }
    }

    private static void joinAnswersTheLength() {
        checks.sentence("Promise 8", "Otherwise the length of the new top.");
        for (int first : new int[] {0, 1, 20}) {
            for (int second : new int[] {0, 1, 20}) {
                BasicStrings x = Checks.made(o -> Checks.put(o, Checks.some(first), Checks.some(90, second)));
                checks.due("join() of " + first + " and " + second, x.join(), first + second);
                checks.due("the pile", Checks.emptied(x), "|" + Checks.some(first) + Checks.some(90, second) + "|");
            }
        }
    }

    /** The call on a top string of that length leaves its characters from the first to before the last. */
    private static void leaves(String name, int length, int first, int last, ToIntFunction<BasicStrings> call) {
        String shown = name + " of " + length;
        BasicStrings x = Checks.made(Checks.state(2, 50));
        Checks.put(x, Checks.some(length));
        checks.due(shown, call.applyAsInt(x), last - first);
        checks.due("used() after " + shown, x.used(), 50 + last - first);
        checks.due("the top after " + shown, Checks.top(x), Checks.some(length).substring(first, last));
        x.drop();
        String below = Checks.dump(Checks.made(Checks.state(2, 50)));
        Checks.type(x, "line");
        checks.due("what is below after " + shown, Checks.dump(x), below);
    }

    /** Every n at a limit for tops of every length at a limit, with the place where the rest begins. */
    private static void leavesEach(String name, IntBinaryOperator first, ToIntBiFunction<BasicStrings, Integer> call) {
        for (int length : new int[] {0, 1, 2, 5, 39, 40}) {
            for (int n : new int[] {0, 1, length - 1, length, length + 1, 40, 41, 254, 255}) {
                if (n >= 0) {
                    int kept = Math.min(n, length);
                    int start = first.applyAsInt(length, kept);
                    leaves(name + "(" + n + ")", length, start, start + kept, o -> call.applyAsInt(o, n));
                }
            }
        }
    }

    private static void leftOfFewer() {
        checks.sentence("Promise 9", "(all of them if it has fewer)");
        leaves("left(4)", 5, 0, 4, o -> o.left(4));
        leaves("left(5)", 5, 0, 5, o -> o.left(5));
        leaves("left(6)", 5, 0, 5, o -> o.left(6));
        leaves("left(255)", 5, 0, 5, o -> o.left(255));
        leaves("left(1)", 0, 0, 0, o -> o.left(1));
    }

    private static void leftOutOfRange() {
        checks.sentence("Promise 9", "n not 0 to 255 answers BAD_ARG");
        leaves("left(0)", 40, 0, 0, o -> o.left(0));
        leaves("left(255)", 40, 0, 40, o -> o.left(255));
        checks.badArgs("left(#)", Checks.NO_BYTES, Checks.state(2, 50), BasicStrings::left);
    }

    private static void leftOfAnEmptyPile() {
        checks.sentence("Promise 9", EMPTY_PILE);
        checks.due("left(1) of the only string", Checks.made(Checks.state(1, 50)).left(1), 1);
        for (int n : new int[] {0, 1, 40, 255}) {
            checks.refused("left(" + n + ")", Checks.TOO_FEW, Checks.state(0, 50), o -> o.left(n));
        }
    }

    private static void leftOrder() {
        checks.sentence("Promise 9", "Tested in this order: n not 0 to 255 answers BAD_ARG; " + EMPTY_PILE + ".");
        checks.badArgs("left(#) of an empty pile", Checks.NO_BYTES, Checks.state(0, 50), BasicStrings::left);
    }

    private static void leftAnswersTheLength() {
        checks.sentence("Promise 9", "Otherwise its new length.");
        leavesEach("left", (length, kept) -> 0, BasicStrings::left);
    }

    private static void rightKeepsTheLast() {
        checks.sentence("Promise 10", "The top string becomes its last n characters");
        leavesEach("right", (length, kept) -> length - kept, BasicStrings::right);
    }

    private static void rightIsOtherwiseAsLeft() {
        checks.sentence("Promise 10", "otherwise as left");
        leaves("right(4)", 5, 1, 5, o -> o.right(4));
        leaves("right(5)", 5, 0, 5, o -> o.right(5));
        leaves("right(6)", 5, 0, 5, o -> o.right(6));
        leaves("right(255)", 5, 0, 5, o -> o.right(255));
        leaves("right(0)", 5, 5, 5, o -> o.right(0));
        checks.badArgs("right(#)", Checks.NO_BYTES, Checks.state(2, 50), BasicStrings::right);
        checks.due("right(1) of the only string", Checks.made(Checks.state(1, 50)).right(1), 1);
        for (int n : new int[] {0, 1, 40, 255}) {
            checks.refused("right(" + n + ")", Checks.TOO_FEW, Checks.state(0, 50), o -> o.right(n));
        }
        checks.badArgs("right(#) of an empty pile", Checks.NO_BYTES, Checks.state(0, 50), BasicStrings::right);
    }

    private static void midFromTheFirst() {
        checks.sentence("Promise 11", "from number i on (1 is the first)");
        leaves("mid(1, 1)", 40, 0, 1, o -> o.mid(1, 1));
        leaves("mid(1, 255)", 40, 0, 40, o -> o.mid(1, 255));
        leaves("mid(2, 255)", 40, 1, 40, o -> o.mid(2, 255));
        leaves("mid(40, 1)", 40, 39, 40, o -> o.mid(40, 1));
    }

    private static void midOfFewer() {
        checks.sentence("Promise 11", "n of them (or as many as there are; none if it has fewer than i)");
        leaves("mid(2, 3)", 5, 1, 4, o -> o.mid(2, 3));
        leaves("mid(2, 4)", 5, 1, 5, o -> o.mid(2, 4));
        leaves("mid(2, 5)", 5, 1, 5, o -> o.mid(2, 5));
        leaves("mid(2, 255)", 5, 1, 5, o -> o.mid(2, 255));
        leaves("mid(5, 1)", 5, 4, 5, o -> o.mid(5, 1));
        leaves("mid(5, 2)", 5, 4, 5, o -> o.mid(5, 2));
        leaves("mid(6, 1)", 5, 5, 5, o -> o.mid(6, 1));
        leaves("mid(7, 1)", 5, 5, 5, o -> o.mid(7, 1));
        leaves("mid(255, 255)", 5, 5, 5, o -> o.mid(255, 255));
        leaves("mid(1, 1)", 0, 0, 0, o -> o.mid(1, 1));
        leaves("mid(41, 1)", 40, 40, 40, o -> o.mid(41, 1));
    }

    private static void midOutOfRange() {
        checks.sentence("Promise 11", "i not 1 to 255 or n not 0 to 255 answers BAD_ARG");
        leaves("mid(1, 0)", 40, 0, 0, o -> o.mid(1, 0));
        leaves("mid(255, 0)", 40, 40, 40, o -> o.mid(255, 0));
        leaves("mid(1, 255)", 39, 0, 39, o -> o.mid(1, 255));
        leaves("mid(255, 255)", 40, 40, 40, o -> o.mid(255, 255));
        checks.badArgs("mid(#, 1)", Checks.NO_PLACES, Checks.state(2, 50), (o, i) -> o.mid(i, 1));
        checks.badArgs("mid(#, 0)", Checks.NO_PLACES, Checks.state(2, 50), (o, i) -> o.mid(i, 0));
        checks.badArgs("mid(1, #)", Checks.NO_BYTES, Checks.state(2, 50), (o, n) -> o.mid(1, n));
        checks.badArgs("mid(255, #)", Checks.NO_BYTES, Checks.state(2, 50), (o, n) -> o.mid(255, n));
        checks.badArgs("mid(0, #)", Checks.NO_BYTES, Checks.state(2, 50), (o, n) -> o.mid(0, n));
    }

    private static void midOfAnEmptyPile() {
        checks.sentence("Promise 11", EMPTY_PILE);
        checks.due("mid(1, 1) of the only string", Checks.made(Checks.state(1, 50)).mid(1, 1), 1);
        checks.refused("mid(1, 0)", Checks.TOO_FEW, Checks.state(0, 50), o -> o.mid(1, 0));
        checks.refused("mid(1, 1)", Checks.TOO_FEW, Checks.state(0, 50), o -> o.mid(1, 1));
        checks.refused("mid(255, 255)", Checks.TOO_FEW, Checks.state(0, 50), o -> o.mid(255, 255));
    }

    private static void midOrder() {
        checks.sentence("Promise 11",
                "Tested in this order: i not 1 to 255 or n not 0 to 255 answers BAD_ARG; " + EMPTY_PILE + ".");
        checks.badArgs("mid(#, 1) of an empty pile", Checks.NO_PLACES, Checks.state(0, 50), (o, i) -> o.mid(i, 1));
        checks.badArgs("mid(1, #) of an empty pile", Checks.NO_BYTES, Checks.state(0, 50), (o, n) -> o.mid(1, n));
    }

    private static void midAnswersTheLength() {
        checks.sentence("Promise 11", "Otherwise its new length.");
        for (int length : new int[] {0, 1, 5, 40}) {
            for (int i : new int[] {1, 2, length + 1, length + 2, 40, 41, 254, 255}) {
                for (int n : new int[] {0, 1, length, length + 1, 40, 41, 254, 255}) {
                    int start = Math.min(i - 1, length);
                    int end = Math.min(start + n, length);
                    leaves("mid(" + i + ", " + n + ")", length, start, end, o -> o.mid(i, n));
                }
            }
        }
    }

    private static void compared(String first, String second, int want) {
        BasicStrings x = Checks.made(o -> Checks.set(o, 5, "kept"));
        // What lay on the pile before must not be compared.
        Checks.put(x, "below", "\u00ff".repeat(40), "\u00ff".repeat(40));
        x.drop();
        x.drop();
        Checks.put(x, first, second);
        checks.due("compare() of " + first + " and " + second, x.compare(), want);
        checks.due("variable 5", Checks.variable(x, 5), "kept");
        checks.due("used()", x.used(), 9);
        checks.due("the pile", Checks.emptied(x), "|below|");
    }

    private static void compareOfTheSame() {
        checks.sentence("Promise 13", "answers 0 if they are the same, 1 if X comes before Y and 2 if X comes after Y");
        for (int count : LENGTHS) {
            compared(Checks.some(count), Checks.some(count), 0);
        }
        compared("a", "b", 1);
        compared("b", "a", 2);
    }

    private static void compareOfABeginning() {
        checks.sentence("Promise 13",
                "where of two different strings the one that is a beginning of the other comes first");
        for (int count : new int[] {0, 1, 38, 39}) {
            compared(Checks.some(count), FORTY, 1);
            compared(FORTY, Checks.some(count), 2);
        }
        compared("", "\u0000", 1);
        compared("\u0000", "", 2);
        compared("\u00ff", "\u00ff\u0000", 1);
        compared("\u00ff\u0000", "\u00ff", 2);
    }

    private static void compareWhereTheyDiffer() {
        checks.sentence("Promise 13", "else the one with the smaller character at the first place where they differ");
        compared("\u0000", "\u00ff", 1);
        compared("\u00ff", "\u0000", 2);
        compared("\u007f", "\u0080", 1);
        compared("\u0080", "\u007f", 2);
        compared("a" + "z".repeat(39), "b", 1);
        compared("b", "a" + "z".repeat(39), 2);
        compared("ab", "ba", 1);
        compared("ba", "ab", 2);
        compared("a".repeat(39) + "b", "a".repeat(39) + "c", 1);
        compared("a".repeat(39) + "c", "a".repeat(39) + "b", 2);
        compared("a".repeat(38) + "b", "a".repeat(40), 2);
        compared("a".repeat(40), "a".repeat(38) + "b", 1);
    }

    private static void compareOfFewerThanTwo() {
        checks.sentence("Promise 13", "TOO_FEW if there are fewer than two.");
        checks.due("compare() of two", Checks.made(Checks.state(2, 50)).compare() >= 0, true);
        BasicStrings x = Checks.made(Checks.state(3, 50));
        x.compare();
        checks.due("compare() with one left", x.compare(), Checks.TOO_FEW);
        checks.due("pile()", x.pile(), 1);
        checks.refused("compare() of one", Checks.TOO_FEW, Checks.state(1, 50), BasicStrings::compare);
        checks.refused("compare() of none", Checks.TOO_FEW, Checks.state(0, 50), BasicStrings::compare);
    }
}
