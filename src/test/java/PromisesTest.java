import java.util.function.ToIntFunction;

/** What the document says each call does, with ordinary inputs; the limits are in the tests of edges. */
public final class PromisesTest {
    // The least and the greatest character among them.
    private static final String ODD = "\u0000\u0001\u007f\u0080\u00fe\u00ff";

    private static final Checks checks = new Checks();

    public static void main(String[] args) {
        sentences();
        checks.end();
    }

    static void sentences() {
        whatItIs();
        promise1NewObject();
        promise2Key();
        promise3NewLine();
        promise4Literal();
        promise5Push();
        promise6Let();
        promise7Drop();
        promise8Join();
        promise9Left();
        promise10Right();
        promise11Mid();
        promise12Repeat();
        promise13Compare();
        promise14Find();
        promise15SetMid();
        promise16Swap();
        promise17Length();
        promise18At();
        promise19Pile();
        promise20TopLength();
        promise21TopAt();
        promise22Used();
    }

    /** A few lines as one would have written them in the old language. */
    private static void whatItIs() {
        checks.sentence("What it is", "Strings as in an old line-numbered language: variables, a pile of strings that "
                + "expressions work on, and a store of a hundred characters");
        BasicStrings x = new BasicStrings();
        // 10 LET A$ = "BASIC"
        Checks.put(x, "BASIC");
        checks.due("line 10", x.let(0), 5);
        // 20 LET B$ = LEFT$(A$, 2) + (MID$(A$, 3, 1) + RIGHT$(A$, 2))
        x.push(0);
        x.left(2);
        x.push(0);
        x.mid(3, 1);
        x.push(0);
        x.right(2);
        x.join();
        x.join();
        checks.due("line 20", x.let(1), 5);
        checks.due("line 20: B$", Checks.variable(x, 1), "BASIC");
        // 30 MID$(B$, 1) = STRING$(2, "*")
        x.repeat(2, '*');
        checks.due("line 30", x.setMid(1, 1), 2);
        // 40 LET C$ = A$ + B$: SWAP B$, C$
        x.push(0);
        x.push(1);
        x.join();
        x.let(2);
        checks.due("line 40", x.swap(1, 2), 0);
        // 50 PRINT A$ < C$, INSTR(B$, C$), LEN(B$)
        x.push(0);
        x.push(2);
        checks.due("line 50: the order", x.compare(), 2);
        checks.due("line 50: the place", x.find(1, 2), 6);
        checks.due("line 50: the length", x.length(1), 10);
        checks.due("after line 50", Checks.dump(x),
                "used 20 v0=BASIC v1=BASIC**SIC v2=**SIC v3= v4= v5= pile | line BASIC");
    }

    private static void promise1NewObject() {
        checks.sentence("Promise 1", "All variables hold the empty string, the pile and the keyboard line are empty.");
        BasicStrings x = new BasicStrings();
        BasicStrings other = new BasicStrings();
        Checks.set(x, 3, "mine");
        Checks.put(x, "too");
        checks.due("new: what another object has", Checks.dump(other), "used 0 v0= v1= v2= v3= v4= v5= pile | line ");
    }

    private static void promise2Key() {
        checks.sentence("Promise 2", "Appends character c to the keyboard line.");
        BasicStrings x = new BasicStrings();
        for (int k = 0; k < ODD.length(); k++) {
            checks.due("key", x.key(ODD.charAt(k)), k + 1);
        }
        checks.due("key: the line", Checks.line(x), ODD);
    }

    private static void promise3NewLine() {
        checks.sentence("Promise 3", "Empties the keyboard line.");
        BasicStrings x = new BasicStrings();
        Checks.put(x, "before");
        x.newLine();
        checks.due("newLine: key", x.key('n'), 1);
        checks.due("newLine: the pile stays", Checks.top(x), "before");
        checks.due("newLine: the line", Checks.line(x), "n");
    }

    private static void promise4Literal() {
        checks.sentence("Promise 4", "Puts the keyboard line's characters as a string on the pile; the line stays.");
        BasicStrings x = new BasicStrings();
        Checks.type(x, ODD);
        checks.due("literal", x.literal(), 6);
        checks.due("literal again", x.literal(), 6);
        checks.due("literal: the line stays", x.key('z'), 7);
        checks.due("literal of the longer line", x.literal(), 7);
        checks.due("literal: the pile", Checks.emptied(x), "|" + ODD + "z|" + ODD + "|" + ODD + "|");
    }

    private static void promise5Push() {
        checks.sentence("Promise 5", "Puts the string of variable v on the pile.");
        BasicStrings x = new BasicStrings();
        for (int v = 0; v < 6; v++) {
            Checks.set(x, v, ODD.substring(v));
        }
        for (int v = 0; v < 6; v++) {
            checks.due("push(" + v + ")", x.push(v), 6 - v);
            checks.due("push: the top", Checks.top(x), ODD.substring(v));
            checks.due("push: the variable stays", Checks.variable(x, v), ODD.substring(v));
            checks.due("push: used", x.used(), 21 + 6 - v);
            x.drop();
        }
        x.push(5);
        x.push(4);
        x.push(3);
        checks.due("push: the order", Checks.emptied(x),
                "|" + ODD.substring(3) + "|" + ODD.substring(4) + "|" + ODD.substring(5) + "|");
        x.push(0);
        x.left(2);
        checks.due("push: a copy", Checks.variable(x, 0), ODD);
    }

    private static void promise6Let() {
        checks.sentence("Promise 6", "Takes the top string off the pile and makes it the string of variable v; what "
                + "the variable held is gone.");
        BasicStrings x = new BasicStrings();
        for (int v = 0; v < 6; v++) {
            Checks.put(x, "below", ODD.substring(v));
            checks.due("let(" + v + ")", x.let(v), 6 - v);
            checks.due("let: the pile", Checks.emptied(x), "|below|");
        }
        for (int v = 0; v < 6; v++) {
            checks.due("let: the variable", Checks.variable(x, v), ODD.substring(v));
        }
        Checks.put(x, "xy");
        checks.due("let over a longer string", x.let(0), 2);
        checks.due("let: the shorter string", Checks.variable(x, 0), "xy");
        checks.due("let: used", x.used(), 2 + 15);
    }

    private static void promise7Drop() {
        checks.sentence("Promise 7", "Takes the top string off the pile.");
        BasicStrings x = new BasicStrings();
        Checks.put(x, "one", "seven", "three");
        checks.due("drop", x.drop(), 5);
        checks.due("drop: used", x.used(), 8);
        checks.due("drop: the pile", Checks.emptied(x), "|seven|one|");
    }

    private static void promise8Join() {
        checks.sentence("Promise 8", "Takes the top string Y and the one below it X off the pile and puts X followed "
                + "by Y on.");
        BasicStrings x = new BasicStrings();
        Checks.put(x, "below", "left", ODD);
        checks.due("join", x.join(), 10);
        checks.due("join: used stays", x.used(), 15);
        checks.due("join: the top", Checks.top(x), "left" + ODD);
        checks.due("join again", x.join(), 15);
        checks.due("join: the pile", Checks.emptied(x), "|belowleft" + ODD + "|");
    }

    /** What is left of the top string after the call, with its length checked. */
    private static void cut(String name, String text, String want, ToIntFunction<BasicStrings> call) {
        BasicStrings x = new BasicStrings();
        Checks.set(x, 5, "kept");
        Checks.put(x, "below", text);
        checks.due(name, call.applyAsInt(x), want.length());
        checks.due(name + ": used", x.used(), 9 + want.length());
        checks.due(name + ": the pile", Checks.emptied(x), "|" + want + "|below|");
        checks.due(name + ": a variable", Checks.variable(x, 5), "kept");
        Checks.put(x, text);
        checks.due(name + " of the only string", call.applyAsInt(x), want.length());
        checks.due(name + ": the only string", Checks.emptied(x), "|" + want + "|");
    }

    private static void promise9Left() {
        checks.sentence("Promise 9", "The top string becomes its first n characters");
        cut("left(1)", "abcde", "a", o -> o.left(1));
        cut("left(3)", "abcde", "abc", o -> o.left(3));
        cut("left(4)", ODD, ODD.substring(0, 4), o -> o.left(4));
    }

    private static void promise10Right() {
        checks.sentence("Promise 10", "The top string becomes its last n characters");
        cut("right(1)", "abcde", "e", o -> o.right(1));
        cut("right(3)", "abcde", "cde", o -> o.right(3));
        cut("right(4)", ODD, ODD.substring(2), o -> o.right(4));
    }

    private static void promise11Mid() {
        checks.sentence("Promise 11", "The top string becomes its characters from number i on (1 is the first), n of "
                + "them");
        cut("mid(1, 2)", "abcde", "ab", o -> o.mid(1, 2));
        cut("mid(2, 3)", "abcde", "bcd", o -> o.mid(2, 3));
        cut("mid(3, 2)", ODD, ODD.substring(2, 4), o -> o.mid(3, 2));
    }

    private static void promise12Repeat() {
        checks.sentence("Promise 12", "Puts a string of n times character c on the pile.");
        BasicStrings x = Checks.made(o -> Checks.put(o, "ab"));
        checks.due("repeat(3, 255)", x.repeat(3, 255), 3);
        checks.due("repeat(2, 0)", x.repeat(2, 0), 2);
        checks.due("repeat(40, 65) as the fourth", x.repeat(40, 65), 40);
        checks.due("repeat: used", x.used(), 47);
        checks.due("repeat: the pile", Checks.emptied(x),
                "|" + "A".repeat(40) + "|\u0000\u0000|\u00ff\u00ff\u00ff|ab|");
        checks.due("repeat: the line stays", Checks.line(x), "ab");
    }

    private static void compared(String first, String second, int want) {
        BasicStrings x = new BasicStrings();
        Checks.put(x, "below", first, second);
        checks.due("compare of " + first + " and " + second, x.compare(), want);
        checks.due("compare: used", x.used(), 5);
        checks.due("compare: the pile", Checks.emptied(x), "|below|");
    }

    private static void promise13Compare() {
        checks.sentence("Promise 13", "Takes the top string Y and the one below it X off the pile; answers 0 if they "
                + "are the same, 1 if X comes before Y and 2 if X comes after Y");
        compared("same", "same", 0);
        compared(ODD, ODD, 0);
        compared("abc", "abcd", 1);
        compared("abcd", "abc", 2);
        compared("abc", "abd", 1);
        compared("abd", "abc", 2);
        compared("abzzz", "b", 1);
        compared("bca", "bac", 2);
        compared("\u0000\u00ff", "\u0001", 1);
    }

    private static void found(String text, String part, int want) {
        BasicStrings x = new BasicStrings();
        Checks.setAnew(x, 0, text);
        Checks.setAnew(x, 5, part);
        checks.due("find of " + part + " in " + text, x.find(0, 5), want);
        checks.due("find: u stays", Checks.variable(x, 0), text);
        checks.due("find: v stays", Checks.variable(x, 5), part);
    }

    private static void promise14Find() {
        checks.sentence("Promise 14", "The least i >= 1 such that the characters of variable u from number i on "
                + "begin with those of variable v; 0 if there is none.");
        found("hello", "h", 1);
        found("hello", "l", 3);
        found("hello", "lo", 4);
        found("hello", "hellos", 0);
        found("hello", "oa", 0);
        found("hello", "x", 0);
        found("aaaab", "aab", 3);
        found("ababac", "abac", 3);
        found("abab", "ab", 1);
        found(ODD, "\u0080\u00fe", 4);
    }

    private static void replaced(String text, int i, String by, String want, int count) {
        BasicStrings x = new BasicStrings();
        for (int v = 0; v < 6; v++) {
            Checks.set(x, v, "v" + v);
        }
        Checks.set(x, 2, text);
        x.push(2);
        Checks.put(x, by);
        checks.due("setMid of " + text + " from " + i + " by " + by, x.setMid(2, i), count);
        checks.due("setMid: used", x.used(), 10 + 2 * text.length());
        checks.due("setMid: the pile", Checks.emptied(x), "|" + text + "|");
        for (int v = 0; v < 6; v++) {
            checks.due("setMid: variable " + v, Checks.variable(x, v), v == 2 ? want : "v" + v);
        }
    }

    private static void promise15SetMid() {
        checks.sentence("Promise 15", "The characters of variable v from number i on are replaced, one for one, by "
                + "those of the top string");
        replaced("abcde", 1, "XY", "XYcde", 2);
        replaced("abcde", 2, "XY", "aXYde", 2);
        replaced("abcde", 3, "X", "abXde", 1);
        replaced("abcde", 3, ODD, "ab" + ODD.substring(0, 3), 3);
        replaced("abcde", 9, "XY", "abcde", 0);
    }

    private static void promise16Swap() {
        checks.sentence("Promise 16", "The strings of variables u and v change places.");
        BasicStrings x = new BasicStrings();
        Checks.set(x, 0, ODD);
        Checks.set(x, 5, "a".repeat(40));
        Checks.put(x, "pile");
        checks.due("swap(0, 5)", x.swap(0, 5), 0);
        checks.due("swap: u", Checks.variable(x, 0), "a".repeat(40));
        checks.due("swap: v", Checks.variable(x, 5), ODD);
        checks.due("swap(5, 3)", x.swap(5, 3), 0);
        checks.due("swap: with an empty one", Checks.variable(x, 5), "");
        checks.due("swap: into an empty one", Checks.variable(x, 3), ODD);
        checks.due("swap(3, 3)", x.swap(3, 3), 0);
        checks.due("swap: with itself", Checks.variable(x, 3), ODD);
        checks.due("swap: used", x.used(), 50);
        checks.due("swap: the pile", Checks.emptied(x), "|pile|");
    }

    private static void promise17Length() {
        checks.sentence("Promise 17", "The length of the string of variable v");
        BasicStrings x = new BasicStrings();
        for (int v = 0; v < 6; v++) {
            x.repeat(5 + v, 0);
            x.let(v);
        }
        for (int v = 0; v < 6; v++) {
            checks.due("length(" + v + ")", x.length(v), 5 + v);
        }
    }

    private static void promise18At() {
        checks.sentence("Promise 18", "Character number i (1 is the first) of variable v");
        BasicStrings x = new BasicStrings();
        for (int v = 0; v < 6; v++) {
            Checks.set(x, v, "ab" + (char) (250 + v));
        }
        for (int v = 0; v < 6; v++) {
            checks.due("at(" + v + ", 1)", x.at(v, 1), (int) 'a');
            checks.due("at(" + v + ", 2)", x.at(v, 2), (int) 'b');
            checks.due("at(" + v + ", 3)", x.at(v, 3), 250 + v);
            checks.due("at(" + v + ", 4)", x.at(v, 4), 0);
        }
    }

    private static void promise19Pile() {
        checks.sentence("Promise 19", "The number of strings on the pile.");
        BasicStrings x = new BasicStrings();
        for (int k = 1; k <= 4; k++) {
            x.repeat(k % 2, 'a');
            checks.due("pile", x.pile(), k);
        }
        x.join();
        checks.due("pile after join", x.pile(), 3);
        x.let(0);
        checks.due("pile after let", x.pile(), 2);
        x.left(0);
        checks.due("pile after left", x.pile(), 2);
        x.compare();
        checks.due("pile after compare", x.pile(), 0);
        x.push(0);
        checks.due("pile after push", x.pile(), 1);
        x.setMid(0, 1);
        checks.due("pile after setMid", x.pile(), 0);
        x.literal();
        checks.due("pile after literal", x.pile(), 1);
        x.drop();
        checks.due("pile after drop", x.pile(), 0);
    }

    private static void promise20TopLength() {
        checks.sentence("Promise 20", "The length of the top string");
        BasicStrings x = new BasicStrings();
        Checks.put(x, "abc", "defgh");
        checks.due("topLength of 5", x.topLength(), 5);
        x.drop();
        checks.due("topLength of 3", x.topLength(), 3);
    }

    private static void promise21TopAt() {
        checks.sentence("Promise 21", "Character number i (1 is the first) of the top string");
        BasicStrings x = new BasicStrings();
        Checks.put(x, "below", "ab\u00ff");
        checks.due("topAt(1)", x.topAt(1), (int) 'a');
        checks.due("topAt(2)", x.topAt(2), (int) 'b');
        checks.due("topAt(3)", x.topAt(3), 255);
        checks.due("topAt(4)", x.topAt(4), 0);
    }

    private static void promise22Used() {
        checks.sentence("Promise 22", "USED.");
        BasicStrings x = new BasicStrings();
        Checks.set(x, 0, "abc");
        checks.due("used: a variable", x.used(), 3);
        x.push(0);
        checks.due("used: the same string on the pile", x.used(), 6);
        x.push(0);
        x.let(5);
        checks.due("used: the same string in two variables", x.used(), 9);
        Checks.put(x, "de", "f");
        checks.due("used: the pile", x.used(), 12);
        x.right(0);
        checks.due("used after right", x.used(), 11);
        x.drop();
        x.drop();
        checks.due("used after drop", x.used(), 9);
        x.setMid(0, 2);
        checks.due("used after setMid", x.used(), 6);
        Checks.type(x, "line");
        checks.due("used: not the line", x.used(), 6);
    }
}
