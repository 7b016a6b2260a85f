import java.util.function.Consumer;
import java.util.function.ToIntFunction;

/** A test for each sentence of 'What it is' and 'Terms' that names a limit. */
public final class EdgesOfTermsTest {
    private static final String FORTY = Checks.some(40);

    private static final Checks checks = new Checks();

    public static void main(String[] args) {
        sentences();
        checks.end();
    }

    static void sentences() {
        fullExactlyWhenAllIsNeeded();
        whatWasThereTakesNoRoom();
        whatIsTakenAwayMakesRoom();
        theLastOfTheCalls();
        callsAfterTheLast();
        lengthsOfStrings();
        characters();
        variables();
        stringsOnThePile();
        whatUsedCounts();
        longerThanForty();
        greaterThanHundred();
        longBeforeFull();
        theKeyboardLine();
        noCallThrows();
        refusedCallsChangeNothing();
        theCodes();
    }

    private static void fullExactlyWhenAllIsNeeded() {
        checks.sentence("What it is",
                "a store of a hundred characters that is full exactly when the strings that are there need it all");
        BasicStrings x = Checks.made(o -> Checks.use(o, 99));
        checks.due("repeat(1, 7) with 99 used", x.repeat(1, 7), 1);
        checks.due("used", x.used(), 100);
        checks.refused("repeat(1, 7) with 100 used", Checks.FULL, Checks.state(2, 100), o -> o.repeat(1, 7));
    }

    private static void whatWasThereTakesNoRoom() {
        checks.sentence("What it is", "when the strings that are there need it all");
        BasicStrings worn = Checks.made(o -> Checks.use(o, 60));
        for (int k = 0; k < 200; k++) {
            checks.due("repeat(40, 7), time " + k, worn.repeat(40, 7), 40);
            checks.due("drop(), time " + k, worn.drop(), 40);
        }
        BasicStrings copied = Checks.made(o -> Checks.use(o, 20));
        for (int k = 0; k < 160; k++) {
            checks.due("push(0), time " + k, copied.push(0), 20);
            checks.due("let(), time " + k, copied.let(1 + k % 3), 20);
        }
        checks.due("push(0) up to 100", copied.push(0), 20);
        checks.due("push(0) up to 120", copied.push(0), Checks.FULL);
        checks.due("used", copied.used(), 100);
    }

    /** From a full store, with two strings of 5 on the pile, the call makes room for just so many. */
    private static void makesRoom(String name, int room, ToIntFunction<BasicStrings> call) {
        Consumer<BasicStrings> full = o -> {
            Checks.use(o, 90);
            Checks.put(o, "ppppp", "qqqqq");
        };
        Consumer<BasicStrings> after = o -> {
            full.accept(o);
            call.applyAsInt(o);
        };
        checks.refused("repeat(1, 7) before " + name, Checks.FULL, full, o -> o.repeat(1, 7));
        checks.refused("repeat of too many after " + name, Checks.FULL, after, o -> o.repeat(room + 1, 7));
        BasicStrings x = Checks.made(after);
        checks.due("used after " + name, x.used(), 100 - room);
        checks.due("repeat after " + name, x.repeat(room, 7), room);
        checks.due("used after that", x.used(), 100);
    }

    private static void whatIsTakenAwayMakesRoom() {
        checks.sentence("What it is", "exactly when the strings that are there need it all");
        makesRoom("drop()", 5, BasicStrings::drop);
        makesRoom("let(2)", 10, o -> o.let(2));
        makesRoom("let(5)", 0, o -> o.let(5));
        makesRoom("left(2)", 3, o -> o.left(2));
        makesRoom("right(1)", 4, o -> o.right(1));
        makesRoom("mid(2, 3)", 2, o -> o.mid(2, 3));
        makesRoom("mid(6, 1)", 5, o -> o.mid(6, 1));
        makesRoom("compare()", 10, BasicStrings::compare);
        makesRoom("setMid(0, 1)", 5, o -> o.setMid(0, 1));
        makesRoom("setMid(5, 1)", 5, o -> o.setMid(5, 1));
        makesRoom("join()", 0, BasicStrings::join);
        makesRoom("swap(0, 5)", 0, o -> o.swap(0, 5));
    }

    private static void theLastOfTheCalls() {
        checks.sentence("What it is", "An object is used for at most 512 calls after it has been made");
        BasicStrings typed = new BasicStrings();
        for (int k = 1; k <= 510; k++) {
            if (k % 41 == 0) {
                typed.newLine();
            } else {
                checks.due("key, as call " + k, typed.key(k % 256), k % 41);
            }
        }
        checks.due("literal(), as call 511", typed.literal(), 18);
        checks.due("topAt(18), as call 512", typed.topAt(18), 510 % 256);
        BasicStrings swapped = new BasicStrings();
        swapped.repeat(40, 1);
        swapped.let(0);
        for (int k = 3; k <= 510; k++) {
            checks.due("swap(0, 5), as call " + k, swapped.swap(0, 5), 0);
        }
        checks.due("length(5), as call 511", swapped.length(5), 0);
        checks.due("at(0, 40), as call 512", swapped.at(0, 40), 1);
    }

    private static void callsAfterTheLast() {
        checks.sentence("What it is", "after it has been made; what later calls answer is free.");
        BasicStrings x = Checks.made(Checks.state(3, 90));
        for (int k = 0; k < 512; k++) {
            x.swap(0, 5);
        }
        // No answer is asked for, but no rule of LANGUAGE.md ends with the 512th call: none may throw.
        for (Call call : Call.ALL) {
            for (int number : new int[] {Checks.LEAST, -1, 0, 1, 5, 6, 40, 41, 255, 256, Checks.GREATEST}) {
                doesNotThrow("call after the 512th: " + call.with(number, number),
                        () -> call.program().answer(x, number, number));
            }
        }
    }

    private static void doesNotThrow(String name, Runnable calls) {
        try {
            calls.run();
        } catch (Throwable thrown) {
            checks.due(name, thrown, "no throw");
        }
    }

    private static void lengthsOfStrings() {
        checks.sentence("Terms", "A STRING is a list of 0 to 40 characters");
        for (int v = 0; v < 6; v++) {
            for (String text : new String[] {"", "a", FORTY.substring(1), FORTY}) {
                BasicStrings x = new BasicStrings();
                Checks.set(x, v, "before");
                Checks.set(x, v, text);
                checks.due("variable " + v, Checks.variable(x, v), text);
            }
        }
        for (int below = 0; below < 4; below++) {
            BasicStrings x = new BasicStrings();
            for (int k = 0; k < below; k++) {
                x.repeat(0, 0);
            }
            Checks.put(x, FORTY);
            checks.due("the string on " + below + " empty ones", Checks.emptied(x),
                    "|" + FORTY + "|" + "|".repeat(below));
        }
        checks.refused("key with 40", Checks.LONG, o -> Checks.type(o, FORTY), o -> o.key(1));
        checks.refused("repeat(41, 1)", Checks.LONG, Checks.state(1, 20), o -> o.repeat(41, 1));
        checks.refused("join up to 41", Checks.LONG, o -> Checks.put(o, FORTY, "a"), BasicStrings::join);
    }

    private static void characters() {
        checks.sentence("Terms", "a character is a number 0 to 255");
        for (int c = 0; c <= 255; c++) {
            BasicStrings x = new BasicStrings();
            checks.due("key(" + c + ")", x.key(c), 1);
            x.literal();
            checks.due("topAt(1) after key(" + c + ")", x.topAt(1), c);
            checks.due("repeat(1, " + c + ")", x.repeat(1, c), 1);
            checks.due("topAt(1) after repeat(1, " + c + ")", x.topAt(1), c);
            x.join();
            x.let(0);
            checks.due("at(0, 1) of " + c, x.at(0, 1), c);
            checks.due("at(0, 2) of " + c, x.at(0, 2), c);
        }
        checks.badArgs("key(#)", new int[] {-1, 256}, Checks.state(1, 20), BasicStrings::key);
        checks.badArgs("repeat(1, #)", new int[] {-1, 256}, Checks.state(1, 20), (o, c) -> o.repeat(1, c));
    }

    private static void variables() {
        checks.sentence("Terms", "There are VARIABLES 0 to 5, each holding a string, and");
        BasicStrings x = new BasicStrings();
        for (int v = 0; v <= 5; v++) {
            Checks.put(x, Checks.some(50 * v, 16));
            checks.due("let(" + v + ")", x.let(v), 16);
        }
        for (int v = 0; v <= 5; v++) {
            checks.due("variable " + v, Checks.variable(x, v), Checks.some(50 * v, 16));
        }
        for (int v : new int[] {-1, 6}) {
            for (Call call : Call.ALL) {
                refusesVariable(call, v);
            }
        }
    }

    private static void refusesVariable(Call call, int v) {
        int answer = call.name().equals("at") ? 0 : Checks.BAD_ARG;
        if (call.kinds().startsWith("v")) {
            checks.unchanged(call.with(v, 1), answer, Checks.state(2, 30), o -> call.program().answer(o, v, 1));
        }
        if (call.kinds().endsWith("vv")) {
            checks.unchanged(call.with(1, v), answer, Checks.state(2, 30), o -> call.program().answer(o, 1, v));
        }
    }

    private static void stringsOnThePile() {
        checks.sentence("Terms", "a PILE of at most 4 strings");
        Consumer<BasicStrings> three = o -> {
            Checks.set(o, 0, "v");
            Checks.put(o, "a", "", "c");
        };
        String below = "|c||a|";
        BasicStrings x = Checks.made(three);
        checks.due("literal() as the fourth", x.literal(), 1);
        checks.due("the pile", Checks.emptied(x), "|c" + below);
        x = Checks.made(three);
        checks.due("push(0) as the fourth", x.push(0), 1);
        checks.due("the pile", Checks.emptied(x), "|v" + below);
        x = Checks.made(three);
        checks.due("repeat(2, 114) as the fourth", x.repeat(2, 'r'), 2);
        checks.due("the pile", Checks.emptied(x), "|rr" + below);
        checks.refused("literal() as the fifth", Checks.FULL, Checks.state(4, 30), BasicStrings::literal);
        checks.refused("push(0) as the fifth", Checks.FULL, Checks.state(4, 30), o -> o.push(0));
        checks.refused("repeat(1, 1) as the fifth", Checks.FULL, Checks.state(4, 30), o -> o.repeat(1, 1));
    }

    private static void whatUsedCounts() {
        checks.sentence("Terms", "USED is the sum of the lengths of all variables' strings and all strings on the pile "
                + "(each counted for itself, also where they are the same)");
        BasicStrings x = new BasicStrings();
        checks.due("used of a new object", x.used(), 0);
        for (int v = 0; v < 6; v++) {
            x.repeat(10, 7);
            x.let(v);
            checks.due("used with variables up to " + v, x.used(), 10 * (v + 1));
        }
        for (int k = 1; k <= 4; k++) {
            checks.due("push(0)", x.push(0), 10);
            checks.due("used with " + k + " on the pile", x.used(), 60 + 10 * k);
        }
        x.drop();
        checks.due("used after drop()", x.used(), 90);
        x.left(9);
        checks.due("used after left(9)", x.used(), 89);
        x.let(5);
        checks.due("used after let(5)", x.used(), 79);
    }

    private static void longerThanForty() {
        checks.sentence("Terms", "An operation that would make a string longer than 40 answers LONG");
        BasicStrings x = new BasicStrings();
        checks.due("repeat(40, 1)", x.repeat(40, 1), 40);
        checks.refused("repeat(41, 1)", Checks.LONG, Checks.state(1, 20), o -> o.repeat(41, 1));
        joins(0, 40);
        joins(1, 39);
        joins(20, 20);
        joins(40, 0);
        doesNotJoin(1, 40);
        doesNotJoin(20, 21);
        doesNotJoin(40, 1);
        doesNotJoin(40, 40);
    }

    private static void joins(int first, int second) {
        BasicStrings x = new BasicStrings();
        Checks.put(x, Checks.some(first), Checks.some(50, second));
        checks.due("join() of " + first + " and " + second, x.join(), first + second);
        checks.due("the top", Checks.top(x), Checks.some(first) + Checks.some(50, second));
    }

    private static void doesNotJoin(int first, int second) {
        checks.refused("join() of " + first + " and " + second, Checks.LONG,
                o -> Checks.put(o, "below", Checks.some(first), Checks.some(50, second)), BasicStrings::join);
    }

    /** So many characters used, and so many of them in variable 5, as many as are on the line. */
    private static Consumer<BasicStrings> toPut(int count, int used) {
        return o -> {
            Checks.set(o, 5, Checks.some(count));
            Checks.use(o, used - count);
            Checks.type(o, Checks.some(count));
        };
    }

    private static void greaterThanHundred() {
        checks.sentence("Terms", "one that would make USED greater than 100 answers FULL");
        for (int count : new int[] {1, 20, 40}) {
            String sum = " of " + count + " up to ";
            Consumer<BasicStrings> fits = toPut(count, 100 - count);
            Consumer<BasicStrings> tooMany = toPut(count, 101 - count);
            checks.due("literal()" + sum + "100", Checks.made(fits).literal(), count);
            checks.due("push(5)" + sum + "100", Checks.made(fits).push(5), count);
            checks.due("repeat()" + sum + "100", Checks.made(fits).repeat(count, 1), count);
            checks.refused("literal()" + sum + "101", Checks.FULL, tooMany, BasicStrings::literal);
            checks.refused("push(5)" + sum + "101", Checks.FULL, tooMany, o -> o.push(5));
            checks.refused("repeat()" + sum + "101", Checks.FULL, tooMany, o -> o.repeat(count, 1));
        }
    }

    private static void longBeforeFull() {
        checks.sentence("Terms", "LONG is tested before FULL");
        for (int used : new int[] {59, 60, 61, 99, 100}) {
            Consumer<BasicStrings> state = Checks.state(3, used);
            checks.refused("repeat(41, 1) with " + used + " used", Checks.LONG, state, o -> o.repeat(41, 1));
            checks.refused("repeat(255, 1) with " + used + " used", Checks.LONG, state, o -> o.repeat(255, 1));
        }
        checks.refused("repeat(40, 1) with 61 used", Checks.FULL, Checks.state(3, 61), o -> o.repeat(40, 1));
        checks.refused("join() up to 41 with 100 used", Checks.LONG, o -> {
            Checks.use(o, 59);
            Checks.put(o, "a", FORTY);
        }, BasicStrings::join);
    }

    private static void theKeyboardLine() {
        checks.sentence("Terms", "There is a KEYBOARD LINE of 0 to 40 characters, which does not count.");
        for (int used : new int[] {0, 60, 100}) {
            BasicStrings x = Checks.made(o -> Checks.use(o, used));
            for (int k = 0; k < 40; k++) {
                checks.due("key with " + used + " used", x.key(FORTY.charAt(k)), k + 1);
                checks.due("used with a line of " + (k + 1), x.used(), used);
            }
            checks.due("key as the forty-first", x.key(1), Checks.LONG);
            checks.due("the line", Checks.line(x), FORTY);
        }
        BasicStrings empty = Checks.made(o -> Checks.use(o, 100));
        checks.due("literal() of the empty line with 100 used", empty.literal(), 0);
    }

    private static void noCallThrows() {
        checks.sentence("Terms", "No call ever throws.");
        Grid.each((state, call, a, b) -> doesNotThrow(state + " " + call.with(a, b), () -> {
            BasicStrings x = Grid.program(state);
            call.program().answer(x, a, b);
            Checks.dump(x);
        }));
    }

    private static void refusedCallsChangeNothing() {
        checks.sentence("Terms", "A refused call answers the code named and changes nothing.");
        Grid.each((state, call, a, b) -> {
            BasicStrings x = Grid.program(state);
            String name = state + " " + call.with(a, b);
            int answer = call.program().answer(x, a, b);
            if (answer < 0) {
                checks.due("the code after " + name, answer >= Checks.TOO_FEW || answer == Checks.LONG, true);
                checks.due("the state after " + name, Checks.dump(x), Checks.dump(Grid.program(state)));
            }
        });
    }

    private static void theCodes() {
        checks.sentence("Terms", "The constants: `BAD_ARG = -1`: An argument is out of its range.");
        checks.due("BAD_ARG", BasicStrings.BAD_ARG, -1);
        checks.due("push(6)", new BasicStrings().push(6), -1);
        checks.sentence("Terms", "`FULL = -2`: The store is full, or a limit is reached.");
        checks.due("FULL", BasicStrings.FULL, -2);
        checks.due("repeat(1, 7) with 100 used", Checks.made(Checks.state(3, 100)).repeat(1, 7), -2);
        checks.due("repeat(1, 7) with 4", Checks.made(Checks.state(4, 4)).repeat(1, 7), -2);
        checks.sentence("Terms", "`TOO_FEW = -3`: The pile holds too few strings.");
        checks.due("TOO_FEW", BasicStrings.TOO_FEW, -3);
        checks.due("drop()", new BasicStrings().drop(), -3);
        checks.due("join() of one", Checks.made(Checks.state(1, 1)).join(), -3);
        checks.sentence("Terms", "`LONG = -5`: A string would be too long.");
        checks.due("LONG", BasicStrings.LONG, -5);
        checks.due("repeat(41, 7)", new BasicStrings().repeat(41, 7), -5);
    }
}
