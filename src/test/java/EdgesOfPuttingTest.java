import java.util.function.Consumer;

/** A test for each sentence of promises 1 to 5 and 12 that names a limit: the line, and what puts a string on. */
public final class EdgesOfPuttingTest {
    private static final String FORTY = Checks.some(40);
    private static final String FOUR_STRINGS = "the pile has 4 strings answers FULL";
    private static final String THE_STORE = "the store (FULL)";

    private static final Checks checks = new Checks();

    public static void main(String[] args) {
        sentences();
        checks.end();
    }

    static void sentences() {
        newObjectIsEmpty();
        newObjectHasNothingToTake();
        keyOutOfRange();
        keyWithForty();
        keyOrder();
        keyAnswersTheLength();
        newLineEmpties();
        literalLeavesTheLine();
        literalWithFourStrings();
        literalAndTheStore();
        literalOrder();
        literalAnswersTheLength();
        pushOutOfRange();
        pushWithFourStrings();
        pushAndTheStore();
        pushOrder();
        pushAnswersTheLength();
        repeatOutOfRange();
        repeatWithFourStrings();
        repeatGreaterThanForty();
        repeatAndTheStore();
        repeatOrder();
        repeatAnswersTheNumber();
    }

    private static void newObjectIsEmpty() {
        checks.sentence("Promise 1", "All variables hold the empty string, the pile and the keyboard line are empty.");
        BasicStrings filled = Checks.made(Checks.state(4, 100));
        BasicStrings x = new BasicStrings();
        for (int v = 0; v < 6; v++) {
            checks.due("length(" + v + ")", x.length(v), 0);
            checks.due("at(" + v + ", 1)", x.at(v, 1), 0);
        }
        checks.due("pile()", x.pile(), 0);
        checks.due("topAt(1)", x.topAt(1), 0);
        checks.due("used()", x.used(), 0);
        checks.due("literal()", x.literal(), 0);
        checks.due("key(7)", x.key(7), 1);
        checks.due("used() of the object made before", filled.used(), 100);
    }

    private static void newObjectHasNothingToTake() {
        checks.sentence("Promise 1", "the pile and the keyboard line are empty");
        Consumer<BasicStrings> made = o -> { };
        checks.refused("let(0)", Checks.TOO_FEW, made, o -> o.let(0));
        checks.refused("drop()", Checks.TOO_FEW, made, BasicStrings::drop);
        checks.refused("join()", Checks.TOO_FEW, made, BasicStrings::join);
        checks.refused("left(1)", Checks.TOO_FEW, made, o -> o.left(1));
        checks.refused("right(1)", Checks.TOO_FEW, made, o -> o.right(1));
        checks.refused("mid(1, 1)", Checks.TOO_FEW, made, o -> o.mid(1, 1));
        checks.refused("compare()", Checks.TOO_FEW, made, BasicStrings::compare);
        checks.refused("setMid(0, 1)", Checks.TOO_FEW, made, o -> o.setMid(0, 1));
        checks.refused("topLength()", Checks.TOO_FEW, made, BasicStrings::topLength);
    }

    private static void keyOutOfRange() {
        checks.sentence("Promise 2", "c not 0 to 255 answers BAD_ARG");
        BasicStrings x = new BasicStrings();
        checks.due("key(0)", x.key(0), 1);
        checks.due("key(255)", x.key(255), 2);
        checks.due("the line", Checks.line(x), "\u0000\u00ff");
        checks.badArgs("key(#) with an empty line", Checks.NO_BYTES, o -> { }, BasicStrings::key);
        checks.badArgs("key(#) with a line", Checks.NO_BYTES, Checks.state(2, 50), BasicStrings::key);
    }

    private static void keyWithForty() {
        checks.sentence("Promise 2", "40 characters answers LONG");
        BasicStrings x = Checks.made(o -> Checks.type(o, Checks.some(39)));
        checks.due("key with 39", x.key(FORTY.charAt(39)), 40);
        checks.due("key with 40", x.key(7), Checks.LONG);
        checks.due("key with 40, again", x.key(7), Checks.LONG);
        checks.due("the line", Checks.line(x), FORTY);
        for (int c : new int[] {0, 1, 255}) {
            checks.refused("key(" + c + ") with 40", Checks.LONG, o -> {
                Checks.use(o, 50);
                Checks.put(o, "pile", FORTY);
            }, o -> o.key(c));
        }
    }

    private static void keyOrder() {
        checks.sentence("Promise 2",
                "Tested in this order: c not 0 to 255 answers BAD_ARG; 40 characters answers LONG.");
        checks.badArgs("key(#) with 40", Checks.NO_BYTES, o -> Checks.type(o, FORTY), BasicStrings::key);
    }

    private static void keyAnswersTheLength() {
        checks.sentence("Promise 2", "Otherwise its length.");
        BasicStrings x = Checks.made(Checks.state(4, 100));
        x.newLine();
        for (int k = 1; k <= 40; k++) {
            checks.due("key with a full pile and a full store", x.key(k), k);
        }
    }

    private static void newLineEmpties() {
        checks.sentence("Promise 3", "Empties the keyboard line.");
        for (String text : new String[] {"", "a", Checks.some(39), FORTY}) {
            Consumer<BasicStrings> typed = o -> {
                Checks.state(2, 50).accept(o);
                Checks.type(o, text);
            };
            BasicStrings x = Checks.made(typed);
            x.newLine();
            String before = Checks.dump(Checks.made(typed));
            checks.due("newLine() of " + text.length(), Checks.dump(x),
                    before.substring(0, before.length() - text.length()));
            BasicStrings typedOn = Checks.made(typed);
            typedOn.newLine();
            for (int k = 1; k <= 40; k++) {
                checks.due("key after newLine()", typedOn.key('z'), k);
            }
            checks.due("key with 40 after newLine()", typedOn.key('z'), Checks.LONG);
            checks.due("the line", Checks.line(typedOn), "z".repeat(40));
        }
    }

    private static void literalLeavesTheLine() {
        checks.sentence("Promise 4", "the line stays");
        for (String text : new String[] {"", "a", FORTY}) {
            BasicStrings x = Checks.made(o -> Checks.type(o, text));
            checks.due("literal()", x.literal(), text.length());
            checks.due("literal() again", x.literal(), text.length());
            x.drop();
            x.left(0);
            checks.due("the line", Checks.line(x), text);
        }
        BasicStrings typedOn = Checks.made(o -> Checks.put(o, Checks.some(39)));
        checks.due("key after literal()", typedOn.key(7), 40);
        checks.due("the string that was put", Checks.top(typedOn), Checks.some(39));
    }

    private static void literalWithFourStrings() {
        checks.sentence("Promise 4", FOUR_STRINGS);
        checks.due("literal() with 3", Checks.made(Checks.state(3, 50)).literal(), 4);
        checks.refused("literal() with 4", Checks.FULL, Checks.state(4, 50), BasicStrings::literal);
        checks.refused("literal() with 4 and 100 used", Checks.FULL, Checks.state(4, 100), BasicStrings::literal);
        checks.refused("literal() of nothing with 4", Checks.FULL, o -> Checks.put(o, "", "", "", ""),
                BasicStrings::literal);
    }

    private static void literalAndTheStore() {
        checks.sentence("Promise 4", THE_STORE);
        BasicStrings x = Checks.made(Checks.state(3, 96));
        checks.due("literal() of 4 with 96 used", x.literal(), 4);
        checks.due("used()", x.used(), 100);
        checks.refused("literal() of 4 with 97 used", Checks.FULL, Checks.state(3, 97), BasicStrings::literal);
        BasicStrings empty = Checks.made(Checks.state(3, 100));
        empty.newLine();
        checks.due("literal() of nothing with 100 used", empty.literal(), 0);
        empty.drop();
        empty.key(7);
        checks.due("literal() of one with 100 used", empty.literal(), Checks.FULL);
    }

    private static void literalOrder() {
        checks.sentence("Promise 4", "Tested in this order: " + FOUR_STRINGS + "; " + THE_STORE + ".");
        // Both answer FULL: that one comes before the other can't be seen, only that either is enough.
        checks.refused("literal() with 4 and 96 used", Checks.FULL, Checks.state(4, 96), BasicStrings::literal);
        checks.refused("literal() with 3 and 97 used", Checks.FULL, Checks.state(3, 97), BasicStrings::literal);
        checks.refused("literal() with 4 and 97 used", Checks.FULL, Checks.state(4, 97), BasicStrings::literal);
    }

    private static void literalAnswersTheLength() {
        checks.sentence("Promise 4", "Otherwise the length of the string.");
        for (int count : new int[] {0, 1, 39, 40}) {
            BasicStrings x = Checks.made(o -> Checks.type(o, Checks.some(count)));
            checks.due("literal()", x.literal(), count);
            checks.due("the top", Checks.top(x), Checks.some(count));
        }
    }

    private static void pushOutOfRange() {
        checks.sentence("Promise 5", "v not 0 to 5 answers BAD_ARG");
        BasicStrings x = Checks.made(Checks.state(0, 50));
        checks.due("push(0)", x.push(0), 8);
        checks.due("the top", Checks.top(x), Checks.some(8));
        checks.due("push(5)", x.push(5), 9);
        checks.due("the top", Checks.top(x), Checks.some(100, 9));
        checks.badArgs("push(#)", Checks.NO_VARIABLES, Checks.state(2, 50), BasicStrings::push);
        checks.badArgs("push(#) on an empty pile", Checks.NO_VARIABLES, Checks.state(0, 50), BasicStrings::push);
    }

    private static void pushWithFourStrings() {
        checks.sentence("Promise 5", FOUR_STRINGS);
        checks.due("push(0) with 3", Checks.made(Checks.state(3, 51)).push(0), 8);
        checks.refused("push(0) with 4", Checks.FULL, Checks.state(4, 50), o -> o.push(0));
        checks.refused("push(5) with 4 and 100 used", Checks.FULL, Checks.state(4, 100), o -> o.push(5));
        checks.refused("push(5) of nothing with 4", Checks.FULL, o -> Checks.put(o, "", "", "", ""), o -> o.push(5));
    }

    private static void pushAndTheStore() {
        checks.sentence("Promise 5", THE_STORE);
        Consumer<BasicStrings> sixty = o -> Checks.use(o, 60);
        BasicStrings x = Checks.made(sixty);
        checks.due("push(0) of 40 with 60 used", x.push(0), 40);
        checks.due("used()", x.used(), 100);
        checks.due("push(5) of nothing with 100 used", x.push(5), 0);
        checks.refused("push(0) of 40 with 61 used", Checks.FULL, o -> Checks.use(o, 61), o -> o.push(0));
        checks.refused("push(5) of one with 100 used", Checks.FULL, o -> {
            Checks.use(o, 99);
            Checks.set(o, 5, "a");
        }, o -> o.push(5));
    }

    private static void pushOrder() {
        checks.sentence("Promise 5", "Tested in this order: v not 0 to 5 answers BAD_ARG; " + FOUR_STRINGS);
        checks.badArgs("push(#) with 4", Checks.NO_VARIABLES, Checks.state(4, 50), BasicStrings::push);
        checks.badArgs("push(#) with 100 used", Checks.NO_VARIABLES, Checks.state(3, 100), BasicStrings::push);
    }

    private static void pushAnswersTheLength() {
        checks.sentence("Promise 5", "Otherwise the length of the string.");
        for (int count : new int[] {0, 1, 39, 40}) {
            BasicStrings x = Checks.made(o -> Checks.set(o, 3, Checks.some(count)));
            checks.due("push(3)", x.push(3), count);
            checks.due("the top", Checks.top(x), Checks.some(count));
            checks.due("variable 3", Checks.variable(x, 3), Checks.some(count));
        }
    }

    private static void repeatOutOfRange() {
        checks.sentence("Promise 12", "n not 0 to 255 or c not 0 to 255 answers BAD_ARG");
        BasicStrings x = new BasicStrings();
        checks.due("repeat(0, 0)", x.repeat(0, 0), 0);
        checks.due("repeat(2, 0)", x.repeat(2, 0), 2);
        checks.due("repeat(2, 255)", x.repeat(2, 255), 2);
        checks.due("the pile", Checks.emptied(x), "|\u00ff\u00ff|\u0000\u0000||");
        checks.refused("repeat(255, 255)", Checks.LONG, Checks.state(2, 50), o -> o.repeat(255, 255));
        checks.badArgs("repeat(#, 7)", Checks.NO_BYTES, Checks.state(2, 50), (o, n) -> o.repeat(n, 7));
        checks.badArgs("repeat(1, #)", Checks.NO_BYTES, Checks.state(2, 50), (o, c) -> o.repeat(1, c));
        checks.badArgs("repeat(0, #)", Checks.NO_BYTES, Checks.state(2, 50), (o, c) -> o.repeat(0, c));
        checks.badArgs("repeat(#, #)", Checks.NO_BYTES, Checks.state(2, 50), (o, n) -> o.repeat(n, n));
    }

    private static void repeatWithFourStrings() {
        checks.sentence("Promise 12", FOUR_STRINGS);
        checks.due("repeat(1, 7) with 3", Checks.made(Checks.state(3, 50)).repeat(1, 7), 1);
        checks.refused("repeat(1, 7) with 4", Checks.FULL, Checks.state(4, 50), o -> o.repeat(1, 7));
        checks.refused("repeat(0, 7) with 4", Checks.FULL, Checks.state(4, 50), o -> o.repeat(0, 7));
        checks.refused("repeat(0, 7) with 4 and 100 used", Checks.FULL, Checks.state(4, 100), o -> o.repeat(0, 7));
    }

    private static void repeatGreaterThanForty() {
        checks.sentence("Promise 12", "n greater than 40 answers LONG");
        checks.due("repeat(40, 7)", Checks.made(Checks.state(3, 50)).repeat(40, 7), 40);
        for (int n : new int[] {41, 42, 100, 254, 255}) {
            checks.refused("repeat(" + n + ", 7)", Checks.LONG, Checks.state(3, 50), o -> o.repeat(n, 7));
        }
    }

    private static void repeatAndTheStore() {
        checks.sentence("Promise 12", THE_STORE);
        BasicStrings x = Checks.made(Checks.state(2, 60));
        checks.due("repeat(40, 7) with 60 used", x.repeat(40, 7), 40);
        checks.due("used()", x.used(), 100);
        checks.due("repeat(0, 7) with 100 used", x.repeat(0, 7), 0);
        checks.refused("repeat(40, 7) with 61 used", Checks.FULL, Checks.state(2, 61), o -> o.repeat(40, 7));
        checks.due("repeat(1, 7) with 99 used", Checks.made(Checks.state(2, 99)).repeat(1, 7), 1);
        checks.refused("repeat(1, 7) with 100 used", Checks.FULL, Checks.state(2, 100), o -> o.repeat(1, 7));
    }

    private static void repeatOrder() {
        checks.sentence("Promise 12", "Tested in this order: n not 0 to 255 or c not 0 to 255 answers BAD_ARG; "
                + FOUR_STRINGS + "; n greater than 40 answers LONG; " + THE_STORE + ".");
        checks.badArgs("repeat(#, 7) with 4", Checks.NO_BYTES, Checks.state(4, 100), (o, n) -> o.repeat(n, 7));
        checks.badArgs("repeat(1, #) with 4", Checks.NO_BYTES, Checks.state(4, 100), (o, c) -> o.repeat(1, c));
        checks.badArgs("repeat(41, #)", Checks.NO_BYTES, Checks.state(2, 50), (o, c) -> o.repeat(41, c));
        checks.badArgs("repeat(1, #) with 100 used", Checks.NO_BYTES, Checks.state(2, 100), (o, c) -> o.repeat(1, c));
        checks.refused("repeat(41, 7) with 4", Checks.FULL, Checks.state(4, 50), o -> o.repeat(41, 7));
        checks.refused("repeat(255, 7) with 4 and 100 used", Checks.FULL, Checks.state(4, 100), o -> o.repeat(255, 7));
        checks.refused("repeat(41, 7) with 100 used", Checks.LONG, Checks.state(3, 100), o -> o.repeat(41, 7));
    }

    private static void repeatAnswersTheNumber() {
        checks.sentence("Promise 12", "Otherwise n.");
        for (int n = 0; n <= 40; n++) {
            BasicStrings x = new BasicStrings();
            // What lies beside the new string is as long as can be, and must stay whole.
            Checks.put(x, "", "", FORTY);
            checks.due("repeat", x.repeat(n, 'r'), n);
            checks.due("the pile", Checks.emptied(x), "|" + "r".repeat(n) + "|" + FORTY + "|||");
            checks.due("the line", Checks.line(x), FORTY);
        }
    }
}
