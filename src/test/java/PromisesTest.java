/** Each promise of the document: ordinary inputs, the edges that it names, and wrong inputs. */
public final class PromisesTest {
    private static final int BAD_ARG = -1;
    private static final int FULL = -2;
    private static final int TOO_FEW = -3;
    private static final int LONG = -5;
    private static final int[] NO_VARIABLES = {-1, 6, 7, 10, 255, Integer.MIN_VALUE, Integer.MAX_VALUE};
    private static final int[] NO_BYTES = {-1, 256, 257, -256, Integer.MIN_VALUE, Integer.MAX_VALUE};
    private static final int[] NO_PLACES = {0, -1, 256, 257, Integer.MIN_VALUE, Integer.MAX_VALUE};
    private static final String ODD = "\u0000\u0001\u007f\u0080\u00fe\u00ff";

    private static final Checks checks = new Checks();

    public static void main(String[] args) {
        constants();
        promise1NewObject();
        promise2Key();
        promise3NewLine();
        promise4Literal();
        promise5Push();
        promise6Let();
        promise7Drop();
        promise8Join();
        promise9Left();
        promise10Right();
        promise11Mid();
        promise12Repeat();
        promise13Compare();
        promise14Find();
        promise15SetMid();
        promise16Swap();
        promise17Length();
        promise18At();
        promise19Pile();
        promise20TopLength();
        promise21TopAt();
        promise22Used();
        checks.end();
    }

    private static void constants() {
        checks.due("BAD_ARG", BasicStrings.BAD_ARG, BAD_ARG);
        checks.due("FULL", BasicStrings.FULL, FULL);
        checks.due("TOO_FEW", BasicStrings.TOO_FEW, TOO_FEW);
        checks.due("LONG", BasicStrings.LONG, LONG);
    }

    private static void promise1NewObject() {
        BasicStrings x = new BasicStrings();
        for (int v = 0; v < 6; v++) {
            checks.due("new: length", x.length(v), 0);
            checks.due("new: at", x.at(v, 1), 0);
        }
        checks.due("new: pile", x.pile(), 0);
        checks.due("new: used", x.used(), 0);
        checks.due("new: the line", x.literal(), 0);
        BasicStrings other = new BasicStrings();
        Checks.set(x, 3, "mine");
        Checks.put(x, "too");
        checks.due("new: another object", Checks.dump(other), Checks.dump(new BasicStrings()));
    }

    private static void promise2Key() {
        BasicStrings x = new BasicStrings();
        for (int k = 0; k < ODD.length(); k++) {
            checks.due("key", x.key(ODD.charAt(k)), k + 1);
        }
        x.literal();
        checks.due("key: the characters", Checks.top(x), ODD);
        for (int k = ODD.length(); k < 40; k++) {
            checks.due("key up to 40", x.key('a'), k + 1);
        }
        checks.due("key: the line does not count", x.used(), ODD.length());
        checks.refused("key with 40 characters", LONG, o -> Checks.type(o, "a".repeat(40)), o -> o.key('b'));
        for (int c : NO_BYTES) {
            checks.refused("key(" + c + ")", BAD_ARG, o -> Checks.type(o, "ab"), o -> o.key(c));
            checks.refused("key(" + c + ") with 40", BAD_ARG, o -> Checks.type(o, "a".repeat(40)), o -> o.key(c));
        }
        BasicStrings full = Checks.made(o -> Checks.use(o, 100));
        for (int k = 1; k <= 40; k++) {
            checks.due("key with a full store", full.key('a'), k);
        }
        checks.due("key: used with a full store", full.used(), 100);
    }

    private static void promise3NewLine() {
        BasicStrings x = new BasicStrings();
        x.newLine();
        checks.due("newLine of an empty line", x.literal(), 0);
        Checks.put(x, "a".repeat(40));
        x.newLine();
        checks.due("newLine: the pile stays", Checks.top(x), "a".repeat(40));
        checks.due("newLine: literal", x.literal(), 0);
        checks.due("newLine: key", x.key('b'), 1);
        checks.due("newLine: literal after key", x.literal(), 1);
        checks.due("newLine: the new character", Checks.top(x), "b");
    }

    private static void promise4Literal() {
        BasicStrings x = new BasicStrings();
        Checks.type(x, ODD);
        checks.due("literal", x.literal(), 6);
        checks.due("literal again", x.literal(), 6);
        checks.due("literal: the line stays", x.key('z'), 7);
        checks.due("literal of the longer line", x.literal(), 7);
        checks.due("literal: the pile", Checks.emptied(x), "|" + ODD + "z|" + ODD + "|" + ODD + "|");

        BasicStrings brim = Checks.made(o -> Checks.use(o, 60));
        Checks.type(brim, "c".repeat(40));
        checks.due("literal up to 100", brim.literal(), 40);
        checks.due("literal: used", brim.used(), 100);
        brim.newLine();
        checks.due("literal of nothing with a full store", brim.literal(), 0);
        checks.refused("literal up to 101", FULL, o -> {
            Checks.use(o, 61);
            Checks.type(o, "c".repeat(40));
        }, BasicStrings::literal);
        checks.refused("literal with 4 strings", FULL, o -> Checks.put(o, "a", "b", "c", "d"), BasicStrings::literal);
        checks.refused("literal of nothing with 4", FULL, o -> Checks.put(o, "", "", "", ""), BasicStrings::literal);
    }

    private static void promise5Push() {
        BasicStrings x = new BasicStrings();
        for (int v = 0; v < 6; v++) {
            Checks.set(x, v, ODD.substring(v));
        }
        for (int v = 0; v < 6; v++) {
            checks.due("push(" + v + ")", x.push(v), 6 - v);
            checks.due("push: the top", Checks.top(x), ODD.substring(v));
            checks.due("push: the variable stays", Checks.variable(x, v), ODD.substring(v));
            checks.due("push: used", x.used(), 21 + 6 - v);
            x.drop();
        }
        x.push(5);
        x.push(4);
        x.push(3);
        checks.due("push: the order", Checks.emptied(x),
                "|" + ODD.substring(3) + "|" + ODD.substring(4) + "|" + ODD.substring(5) + "|");
        x.push(0);
        x.left(2);
        checks.due("push: a copy", Checks.variable(x, 0), ODD);

        BasicStrings brim = Checks.made(o -> Checks.use(o, 50));
        checks.due("push up to 90", brim.push(0), 40);
        checks.due("push up to 100", brim.push(1), 10);
        checks.due("push: used at the brim", brim.used(), 100);
        checks.due("push of nothing with a full store", brim.push(5), 0);
        checks.refused("push up to 101", FULL, o -> Checks.use(o, 61), o -> o.push(0));
        checks.refused("push with 4 strings", FULL, o -> Checks.put(o, "a", "b", "c", "d"), o -> o.push(0));
        for (int v : NO_VARIABLES) {
            checks.refused("push(" + v + ")", BAD_ARG, o -> Checks.put(o, "a"), o -> o.push(v));
            checks.refused("push(" + v + ") with 4", BAD_ARG, o -> Checks.put(o, "a", "", "", ""), o -> o.push(v));
        }
    }

    private static void promise6Let() {
        BasicStrings x = new BasicStrings();
        for (int v = 0; v < 6; v++) {
            Checks.put(x, "below", ODD.substring(v));
            checks.due("let(" + v + ")", x.let(v), 6 - v);
            checks.due("let: the pile", Checks.emptied(x), "|below|");
        }
        for (int v = 0; v < 6; v++) {
            checks.due("let: the variable", Checks.variable(x, v), ODD.substring(v));
        }
        Checks.put(x, "xy");
        checks.due("let over a longer string", x.let(0), 2);
        checks.due("let: the shorter string", Checks.variable(x, 0), "xy");
        checks.due("let: what was held is gone", x.used(), 2 + 15);
        Checks.put(x, "");
        checks.due("let of nothing", x.let(0), 0);
        checks.due("let: nothing is held", Checks.variable(x, 0), "");

        BasicStrings full = Checks.made(o -> Checks.use(o, 60));
        full.repeat(40, 'z');
        checks.due("let with a full store", full.let(0), 40);
        checks.due("let: used sinks", full.used(), 60);
        checks.refused("let of an empty pile", TOO_FEW, o -> Checks.set(o, 0, "kept"), o -> o.let(0));
        for (int v : NO_VARIABLES) {
            checks.refused("let(" + v + ")", BAD_ARG, o -> Checks.put(o, "a"), o -> o.let(v));
            checks.refused("let(" + v + ") of an empty pile", BAD_ARG, o -> { }, o -> o.let(v));
        }
    }

    private static void promise7Drop() {
        BasicStrings x = new BasicStrings();
        Checks.put(x, "one", "", "three", "a".repeat(40));
        checks.due("drop of 40", x.drop(), 40);
        checks.due("drop: the next", Checks.top(x), "three");
        checks.due("drop of 5", x.drop(), 5);
        checks.due("drop of nothing", x.drop(), 0);
        checks.due("drop: used", x.used(), 3);
        checks.due("drop of 3", x.drop(), 3);
        checks.due("drop: pile", x.pile(), 0);
        checks.refused("drop of an empty pile", TOO_FEW, o -> Checks.set(o, 5, "kept"), BasicStrings::drop);
    }

    private static void promise8Join() {
        BasicStrings x = new BasicStrings();
        Checks.put(x, "below", "left", ODD);
        checks.due("join", x.join(), 10);
        checks.due("join: used stays", x.used(), 15);
        checks.due("join: the pile", Checks.emptied(x), "|left" + ODD + "|below|");
        Checks.put(x, "", "y");
        checks.due("join with an empty X", x.join(), 1);
        Checks.put(x, "");
        checks.due("join with an empty Y", x.join(), 1);
        checks.due("join with empty ones", Checks.emptied(x), "|y|");
        Checks.put(x, "", "");
        checks.due("join of two empty ones", x.join(), 0);

        BasicStrings full = Checks.made(o -> Checks.use(o, 60));
        full.repeat(1, 'x');
        full.repeat(39, 'y');
        checks.due("join up to 40 with a full store", full.join(), 40);
        checks.due("join: 40 characters", Checks.emptied(full), "|x" + "y".repeat(39) + "|");
        checks.refused("join up to 41", LONG, o -> {
            o.repeat(2, 'x');
            o.repeat(39, 'y');
        }, BasicStrings::join);
        checks.refused("join of 40 and 40", LONG, o -> {
            o.repeat(40, 'x');
            o.repeat(40, 'y');
        }, BasicStrings::join);
        checks.refused("join of one", TOO_FEW, o -> Checks.put(o, "one"), BasicStrings::join);
        checks.refused("join of none", TOO_FEW, o -> Checks.set(o, 5, "kept"), BasicStrings::join);
    }

    /** What is left of the top string after the call, with its length checked. */
    private static void cut(String name, String text, String want, java.util.function.ToIntFunction<BasicStrings> call) {
        BasicStrings x = new BasicStrings();
        Checks.set(x, 5, "kept");
        Checks.put(x, "below", text);
        checks.due(name, call.applyAsInt(x), want.length());
        checks.due(name + ": used", x.used(), 9 + want.length());
        checks.due(name + ": the pile", Checks.emptied(x), "|" + want + "|below|");
        checks.due(name + ": a variable", Checks.variable(x, 5), "kept");
        Checks.put(x, text);
        checks.due(name + " of the only string", call.applyAsInt(x), want.length());
        checks.due(name + ": the only string", Checks.emptied(x), "|" + want + "|");
    }

    private static void promise9Left() {
        cut("left(0)", "abcde", "", o -> o.left(0));
        cut("left(1)", "abcde", "a", o -> o.left(1));
        cut("left(4)", "abcde", "abcd", o -> o.left(4));
        cut("left(5)", "abcde", "abcde", o -> o.left(5));
        cut("left(6)", "abcde", "abcde", o -> o.left(6));
        cut("left(255)", ODD, ODD, o -> o.left(255));
        cut("left(3) of nothing", "", "", o -> o.left(3));
        cut("left(39) of 40", "a".repeat(40), "a".repeat(39), o -> o.left(39));
        checks.refused("left of an empty pile", TOO_FEW, o -> Checks.set(o, 5, "kept"), o -> o.left(1));
        for (int n : NO_BYTES) {
            checks.refused("left(" + n + ")", BAD_ARG, o -> Checks.put(o, "abc"), o -> o.left(n));
            checks.refused("left(" + n + ") of an empty pile", BAD_ARG, o -> { }, o -> o.left(n));
        }
    }

    private static void promise10Right() {
        cut("right(0)", "abcde", "", o -> o.right(0));
        cut("right(1)", "abcde", "e", o -> o.right(1));
        cut("right(4)", "abcde", "bcde", o -> o.right(4));
        cut("right(5)", "abcde", "abcde", o -> o.right(5));
        cut("right(6)", "abcde", "abcde", o -> o.right(6));
        cut("right(255)", ODD, ODD, o -> o.right(255));
        cut("right(3) of nothing", "", "", o -> o.right(3));
        cut("right(39) of 40", "x" + "a".repeat(39), "a".repeat(39), o -> o.right(39));
        checks.refused("right of an empty pile", TOO_FEW, o -> Checks.set(o, 5, "kept"), o -> o.right(1));
        for (int n : NO_BYTES) {
            checks.refused("right(" + n + ")", BAD_ARG, o -> Checks.put(o, "abc"), o -> o.right(n));
            checks.refused("right(" + n + ") of an empty pile", BAD_ARG, o -> { }, o -> o.right(n));
        }
    }

    private static void promise11Mid() {
        cut("mid(1, 0)", "abcde", "", o -> o.mid(1, 0));
        cut("mid(1, 2)", "abcde", "ab", o -> o.mid(1, 2));
        cut("mid(2, 3)", "abcde", "bcd", o -> o.mid(2, 3));
        cut("mid(2, 4)", "abcde", "bcde", o -> o.mid(2, 4));
        cut("mid(2, 5)", "abcde", "bcde", o -> o.mid(2, 5));
        cut("mid(5, 1)", "abcde", "e", o -> o.mid(5, 1));
        cut("mid(5, 255)", "abcde", "e", o -> o.mid(5, 255));
        cut("mid(6, 1)", "abcde", "", o -> o.mid(6, 1));
        cut("mid(7, 255)", "abcde", "", o -> o.mid(7, 255));
        cut("mid(255, 255)", "abcde", "", o -> o.mid(255, 255));
        cut("mid(1, 255)", ODD, ODD, o -> o.mid(1, 255));
        cut("mid(1, 1) of nothing", "", "", o -> o.mid(1, 1));
        cut("mid(40, 9) of 40", "a".repeat(39) + "z", "z", o -> o.mid(40, 9));
        checks.refused("mid of an empty pile", TOO_FEW, o -> Checks.set(o, 5, "kept"), o -> o.mid(1, 1));
        for (int i : NO_PLACES) {
            checks.refused("mid(" + i + ", 1)", BAD_ARG, o -> Checks.put(o, "abc"), o -> o.mid(i, 1));
            checks.refused("mid(" + i + ", 1) of an empty pile", BAD_ARG, o -> { }, o -> o.mid(i, 1));
        }
        for (int n : NO_BYTES) {
            checks.refused("mid(1, " + n + ")", BAD_ARG, o -> Checks.put(o, "abc"), o -> o.mid(1, n));
            checks.refused("mid(1, " + n + ") of an empty pile", BAD_ARG, o -> { }, o -> o.mid(1, n));
        }
    }

    private static void promise12Repeat() {
        BasicStrings x = new BasicStrings();
        checks.due("repeat(3, 255)", x.repeat(3, 255), 3);
        checks.due("repeat(2, 0)", x.repeat(2, 0), 2);
        checks.due("repeat(0, 7)", x.repeat(0, 7), 0);
        checks.due("repeat(40, 65)", x.repeat(40, 65), 40);
        checks.due("repeat: used", x.used(), 45);
        checks.due("repeat: the pile", Checks.emptied(x),
                "|" + "A".repeat(40) + "||\u0000\u0000|\u00ff\u00ff\u00ff|");

        BasicStrings line = Checks.made(o -> Checks.put(o, "ab", "ab", "ab"));
        checks.due("repeat(40, 65) as the fourth", line.repeat(40, 65), 40);
        line.drop();
        line.literal();
        checks.due("repeat: the line stays", Checks.emptied(line), "|ab|ab|ab|ab|");

        BasicStrings brim = Checks.made(o -> Checks.use(o, 60));
        checks.due("repeat up to 100", brim.repeat(40, 1), 40);
        checks.due("repeat of nothing with a full store", brim.repeat(0, 1), 0);
        checks.refused("repeat up to 101", FULL, o -> Checks.use(o, 61), o -> o.repeat(40, 1));
        checks.refused("repeat of one with a full store", FULL, o -> Checks.use(o, 100), o -> o.repeat(1, 1));
        checks.refused("repeat(41)", LONG, o -> { }, o -> o.repeat(41, 1));
        checks.refused("repeat(255)", LONG, o -> { }, o -> o.repeat(255, 1));
        checks.refused("repeat(41) with a full store", LONG, o -> Checks.use(o, 100), o -> o.repeat(41, 1));
        checks.refused("repeat(0) with 4", FULL, o -> Checks.put(o, "", "", "", ""), o -> o.repeat(0, 1));
        checks.refused("repeat(41) with 4", FULL, o -> Checks.put(o, "", "", "", ""), o -> o.repeat(41, 1));
        for (int n : NO_BYTES) {
            checks.refused("repeat(" + n + ", 1)", BAD_ARG, o -> { }, o -> o.repeat(n, 1));
            checks.refused("repeat(1, " + n + ")", BAD_ARG, o -> { }, o -> o.repeat(1, n));
            checks.refused("repeat(41, " + n + ")", BAD_ARG, o -> { }, o -> o.repeat(41, n));
            checks.refused("repeat(" + n + ", 1) with 4", BAD_ARG, o -> Checks.put(o, "", "", "", ""),
                    o -> o.repeat(n, 1));
            checks.refused("repeat(1, " + n + ") with 4", BAD_ARG, o -> Checks.put(o, "", "", "", ""),
                    o -> o.repeat(1, n));
        }
    }

    private static void compared(String first, String second, int want) {
        BasicStrings x = new BasicStrings();
        // What lay on the pile before must not be compared.
        Checks.put(x, "below", "z".repeat(20), "a".repeat(20));
        x.drop();
        x.drop();
        Checks.put(x, first, second);
        checks.due("compare of " + first + " and " + second, x.compare(), want);
        checks.due("compare: used", x.used(), 5);
        checks.due("compare: the pile", Checks.emptied(x), "|below|");
    }

    private static void promise13Compare() {
        compared("", "", 0);
        compared("same", "same", 0);
        compared(ODD, ODD, 0);
        compared("", "\u0000", 1);
        compared("\u0000", "", 2);
        compared("abc", "abcd", 1);
        compared("abcd", "abc", 2);
        compared("abc", "abd", 1);
        compared("abd", "abc", 2);
        compared("abzzz", "b", 1);
        compared("b", "abzzz", 2);
        compared("bca", "bac", 2);
        compared("\u007f", "\u0080", 1);
        compared("\u00ff", "\u0000", 2);
        compared("\u0000\u00ff", "\u0001", 1);
        compared("a".repeat(39) + "b", "a".repeat(39) + "c", 1);
        compared("a".repeat(40), "a".repeat(39), 2);
        checks.refused("compare of one", TOO_FEW, o -> Checks.put(o, "one"), BasicStrings::compare);
        checks.refused("compare of none", TOO_FEW, o -> Checks.set(o, 5, "kept"), BasicStrings::compare);
    }

    private static void found(String text, String part, int want) {
        BasicStrings x = new BasicStrings();
        Checks.set(x, 0, "a".repeat(20));
        Checks.set(x, 5, "a".repeat(20));
        // Set over longer strings, so that what was held before must not be found.
        Checks.set(x, 0, text);
        Checks.set(x, 5, part);
        checks.due("find of " + part + " in " + text, x.find(0, 5), want);
        checks.due("find: u stays", Checks.variable(x, 0), text);
        checks.due("find: v stays", Checks.variable(x, 5), part);
    }

    private static void promise14Find() {
        found("hello", "h", 1);
        found("hello", "l", 3);
        found("hello", "lo", 4);
        found("hello", "o", 5);
        found("hello", "hello", 1);
        found("hello", "hellos", 0);
        found("hello", "oa", 0);
        found("hello", "x", 0);
        found("aaaab", "aab", 3);
        found("ababac", "abac", 3);
        found("abab", "ab", 1);
        found("xa", "aa", 0);
        found("x", "", 1);
        found("", "", 0);
        found("", "x", 0);
        found(ODD, "\u00ff", 6);
        found(ODD, "\u0000", 1);
        found("b", "\u0000", 0);
        found("b".repeat(39) + "c", "c", 40);
        found("b".repeat(40), "b".repeat(40), 1);
        BasicStrings x = Checks.made(o -> Checks.set(o, 2, "two"));
        checks.due("find of itself", x.find(2, 2), 1);
        checks.due("find of empty itself", x.find(1, 1), 0);
        for (int v : NO_VARIABLES) {
            checks.refused("find(" + v + ", 0)", BAD_ARG, o -> Checks.set(o, 0, "a"), o -> o.find(v, 0));
            checks.refused("find(0, " + v + ")", BAD_ARG, o -> Checks.set(o, 0, "a"), o -> o.find(0, v));
        }
    }

    private static void replaced(String text, int i, String by, String want, int count) {
        BasicStrings x = new BasicStrings();
        for (int v = 0; v < 6; v++) {
            Checks.set(x, v, "v" + v);
        }
        Checks.set(x, 2, text);
        x.push(2);
        Checks.put(x, by);
        checks.due("setMid of " + text + " from " + i + " by " + by, x.setMid(2, i), count);
        checks.due("setMid: used", x.used(), 10 + 2 * text.length());
        checks.due("setMid: the pile", Checks.emptied(x), "|" + text + "|");
        for (int v = 0; v < 6; v++) {
            checks.due("setMid: variable " + v, Checks.variable(x, v), v == 2 ? want : "v" + v);
        }
    }

    private static void promise15SetMid() {
        replaced("abcde", 1, "XY", "XYcde", 2);
        replaced("abcde", 2, "XY", "aXYde", 2);
        replaced("abcde", 4, "XY", "abcXY", 2);
        replaced("abcde", 5, "XY", "abcdX", 1);
        replaced("abcde", 6, "XY", "abcde", 0);
        replaced("abcde", 7, "XY", "abcde", 0);
        replaced("abcde", 40, "XY", "abcde", 0);
        replaced("abcde", 41, "XY", "abcde", 0);
        replaced("abcde", 255, "XY", "abcde", 0);
        replaced("abcde", 1, "", "abcde", 0);
        replaced("abcde", 1, "VWXYZ", "VWXYZ", 5);
        replaced("abcde", 1, "UVWXYZ", "UVWXY", 5);
        replaced("abcde", 3, ODD, "ab" + ODD.substring(0, 3), 3);
        replaced("", 1, "XY", "", 0);
        replaced("a".repeat(30), 30, "XY", "a".repeat(29) + "X", 1);

        BasicStrings full = Checks.made(o -> Checks.use(o, 98));
        Checks.put(full, "XY");
        checks.due("setMid at the end of 40 with a full store", full.setMid(0, 40), 1);
        checks.due("setMid: 40 characters", Checks.variable(full, 0), "u".repeat(39) + "X");
        checks.due("setMid: the next variable", Checks.variable(full, 1), "v".repeat(40));

        BasicStrings same = Checks.made(o -> Checks.set(o, 0, "abcde"));
        same.push(0);
        same.push(0);
        checks.due("setMid by its own string", same.setMid(0, 3), 3);
        checks.due("setMid: its own characters", Checks.variable(same, 0), "ababc");
        same.push(0);
        same.let(1);
        Checks.put(same, "Z");
        same.setMid(0, 1);
        checks.due("setMid: a variable with the same string", Checks.variable(same, 1), "ababc");
        checks.due("setMid: the pile with the old string", Checks.emptied(same), "|abcde|");

        checks.refused("setMid of an empty pile", TOO_FEW, o -> Checks.set(o, 0, "kept"), o -> o.setMid(0, 1));
        for (int v : NO_VARIABLES) {
            checks.refused("setMid(" + v + ", 1)", BAD_ARG, o -> Checks.put(o, "a", "b"), o -> o.setMid(v, 1));
            checks.refused("setMid(" + v + ", 1) of an empty pile", BAD_ARG, o -> { }, o -> o.setMid(v, 1));
        }
        for (int i : NO_PLACES) {
            checks.refused("setMid(0, " + i + ")", BAD_ARG, o -> {
                Checks.set(o, 0, "kept");
                Checks.put(o, "a");
            }, o -> o.setMid(0, i));
            checks.refused("setMid(0, " + i + ") of an empty pile", BAD_ARG, o -> { }, o -> o.setMid(0, i));
        }
    }

    private static void promise16Swap() {
        BasicStrings x = new BasicStrings();
        Checks.set(x, 0, ODD);
        Checks.set(x, 5, "a".repeat(40));
        Checks.put(x, "pile");
        checks.due("swap(0, 5)", x.swap(0, 5), 0);
        checks.due("swap: u", Checks.variable(x, 0), "a".repeat(40));
        checks.due("swap: v", Checks.variable(x, 5), ODD);
        checks.due("swap(5, 3)", x.swap(5, 3), 0);
        checks.due("swap: with an empty one", Checks.variable(x, 5), "");
        checks.due("swap: into an empty one", Checks.variable(x, 3), ODD);
        checks.due("swap(3, 3)", x.swap(3, 3), 0);
        checks.due("swap: with itself", Checks.variable(x, 3), ODD);
        checks.due("swap: used", x.used(), 50);
        checks.due("swap: the pile", Checks.emptied(x), "|pile|");
        BasicStrings full = Checks.made(o -> Checks.use(o, 100));
        checks.due("swap with a full store", full.swap(0, 2), 0);
        checks.due("swap: with a full store", Checks.variable(full, 0), "w".repeat(20));
        for (int v : NO_VARIABLES) {
            checks.refused("swap(" + v + ", 0)", BAD_ARG, o -> Checks.set(o, 0, "a"), o -> o.swap(v, 0));
            checks.refused("swap(0, " + v + ")", BAD_ARG, o -> Checks.set(o, 0, "a"), o -> o.swap(0, v));
            checks.refused("swap of " + v + " twice", BAD_ARG, o -> Checks.set(o, 0, "a"), o -> o.swap(v, v));
        }
    }

    private static void promise17Length() {
        BasicStrings x = new BasicStrings();
        for (int v = 0; v < 6; v++) {
            checks.due("length of nothing", x.length(v), 0);
            x.repeat(5 + v, 0);
            x.let(v);
            checks.due("length(" + v + ")", x.length(v), 5 + v);
        }
        BasicStrings full = Checks.made(o -> Checks.use(o, 40));
        Checks.put(full, "pile");
        checks.due("length of 40", full.length(0), 40);
        for (int v : NO_VARIABLES) {
            checks.refused("length(" + v + ")", BAD_ARG, o -> Checks.put(o, "pile"), o -> o.length(v));
        }
    }

    private static void promise18At() {
        BasicStrings x = new BasicStrings();
        for (int v = 0; v < 6; v++) {
            Checks.set(x, v, "longer than before");
            Checks.set(x, v, "ab" + (char) (250 + v));
        }
        Checks.put(x, "pile");
        for (int v = 0; v < 6; v++) {
            checks.due("at(" + v + ", 1)", x.at(v, 1), (int) 'a');
            checks.due("at(" + v + ", 3)", x.at(v, 3), 250 + v);
            checks.due("at(" + v + ", 4)", x.at(v, 4), 0);
            checks.due("at(" + v + ", 41)", x.at(v, 41), 0);
            checks.due("at(" + v + ", 0)", x.at(v, 0), 0);
            checks.due("at(" + v + ", -1)", x.at(v, -1), 0);
            checks.due("at(" + v + ", least)", x.at(v, Integer.MIN_VALUE), 0);
            checks.due("at(" + v + ", greatest)", x.at(v, Integer.MAX_VALUE), 0);
        }
        for (int v : NO_VARIABLES) {
            checks.due("at(" + v + ", 1)", x.at(v, 1), 0);
            checks.due("at(" + v + ", 0)", x.at(v, 0), 0);
        }
        BasicStrings full = Checks.made(o -> Checks.use(o, 80));
        checks.due("at(0, 40)", full.at(0, 40), (int) 'u');
        checks.due("at(0, 41)", full.at(0, 41), 0);
        checks.due("at(1, 0)", full.at(1, 0), 0);
    }

    private static void promise19Pile() {
        BasicStrings x = new BasicStrings();
        for (int k = 1; k <= 4; k++) {
            x.repeat(k % 2, 'a');
            checks.due("pile", x.pile(), k);
        }
        x.repeat(0, 'a');
        checks.due("pile after a refusal", x.pile(), 4);
        x.join();
        checks.due("pile after join", x.pile(), 3);
        x.let(0);
        checks.due("pile after let", x.pile(), 2);
        x.left(0);
        checks.due("pile after left", x.pile(), 2);
        x.compare();
        checks.due("pile after compare", x.pile(), 0);
        x.push(0);
        x.setMid(0, 1);
        checks.due("pile after setMid", x.pile(), 0);
        x.literal();
        x.drop();
        checks.due("pile after drop", x.pile(), 0);
    }

    private static void promise20TopLength() {
        BasicStrings x = new BasicStrings();
        Checks.set(x, 5, "not the pile");
        checks.due("topLength of an empty pile", x.topLength(), TOO_FEW);
        Checks.put(x, "abc", "a".repeat(40), "");
        checks.due("topLength of nothing", x.topLength(), 0);
        x.drop();
        checks.due("topLength of 40", x.topLength(), 40);
        x.drop();
        checks.due("topLength of 3", x.topLength(), 3);
        x.drop();
        checks.due("topLength after the last", x.topLength(), TOO_FEW);
    }

    private static void promise21TopAt() {
        BasicStrings x = new BasicStrings();
        Checks.set(x, 5, "not the pile");
        checks.due("topAt of an empty pile", x.topAt(1), 0);
        Checks.put(x, "below", "longer than before");
        x.drop();
        Checks.put(x, "ab\u00ff");
        checks.due("topAt(1)", x.topAt(1), (int) 'a');
        checks.due("topAt(2)", x.topAt(2), (int) 'b');
        checks.due("topAt(3)", x.topAt(3), 255);
        for (int i : new int[] {4, 0, -1, 40, 41, 255, Integer.MIN_VALUE, Integer.MAX_VALUE}) {
            checks.due("topAt(" + i + ")", x.topAt(i), 0);
        }
        x.repeat(40, 'z');
        checks.due("topAt(40)", x.topAt(40), (int) 'z');
        checks.due("topAt(41)", x.topAt(41), 0);
        Checks.emptied(x);
        checks.due("topAt after the last", x.topAt(1), 0);
    }

    private static void promise22Used() {
        BasicStrings x = new BasicStrings();
        Checks.set(x, 0, "abc");
        checks.due("used: a variable", x.used(), 3);
        x.push(0);
        checks.due("used: the same string on the pile", x.used(), 6);
        x.push(0);
        x.let(5);
        checks.due("used: the same string in two variables", x.used(), 9);
        Checks.put(x, "de", "f");
        checks.due("used: the pile", x.used(), 12);
        x.right(0);
        checks.due("used after right", x.used(), 11);
        x.drop();
        x.drop();
        checks.due("used after drop", x.used(), 9);
        x.setMid(0, 2);
        checks.due("used after setMid", x.used(), 6);
        Checks.type(x, "a".repeat(40));
        checks.due("used: not the line", x.used(), 6);
        BasicStrings full = Checks.made(o -> Checks.use(o, 100));
        checks.due("used at the brim", full.used(), 100);
    }
}
