import java.util.function.Consumer;
import java.util.function.ToIntFunction;

/** What the tests share: counting wrong answers, and reading and filling an object. */
final class Checks {
    private int wrong = 0;

    void due(String call, Object got, Object want) {
        if (!got.equals(want)) {
            wrong++;
            System.out.println(call + " answered " + shown(got) + ", due is " + shown(want));
        }
    }

    /** The call answers the code, and leaves the object as one on which it was not made. */
    void refused(String name, int code, Consumer<BasicStrings> setup, ToIntFunction<BasicStrings> call) {
        BasicStrings called = made(setup);
        due(name, call.applyAsInt(called), code);
        due("the state after the refused " + name, dump(called), dump(made(setup)));
    }

    /** Ends the program, with exit code 1 if an answer was wrong. */
    void end() {
        System.out.println(wrong == 0 ? "all answers are as due" : wrong + " answers are not as due");
        System.exit(wrong == 0 ? 0 : 1);
    }

    static BasicStrings made(Consumer<BasicStrings> setup) {
        BasicStrings x = new BasicStrings();
        setup.accept(x);
        return x;
    }

    static void type(BasicStrings x, String text) {
        x.newLine();
        for (int k = 0; k < text.length(); k++) {
            x.key(text.charAt(k));
        }
    }

    static void put(BasicStrings x, String... texts) {
        for (String text : texts) {
            type(x, text);
            x.literal();
        }
    }

    static void set(BasicStrings x, int v, String text) {
        put(x, text);
        x.let(v);
    }

    /** Fills variables 0, 1 and 2 so that USED is the number given, at most 100. */
    static void use(BasicStrings x, int used) {
        int left = used;
        for (int v = 0; v < 3; v++) {
            int part = Math.min(40, left);
            x.repeat(part, 'u' + v);
            x.let(v);
            left -= part;
        }
    }

    static String variable(BasicStrings x, int v) {
        StringBuilder text = new StringBuilder();
        int length = x.length(v);
        for (int i = 1; i <= length; i++) {
            text.append((char) x.at(v, i));
        }
        return text.toString();
    }

    static String top(BasicStrings x) {
        StringBuilder text = new StringBuilder();
        int length = x.topLength();
        for (int i = 1; i <= length; i++) {
            text.append((char) x.topAt(i));
        }
        return text.toString();
    }

    /** The whole pile from its top down, between bars; the pile is empty afterwards. */
    static String emptied(BasicStrings x) {
        StringBuilder text = new StringBuilder("|");
        int strings = x.pile();
        for (int k = 0; k < strings; k++) {
            text.append(top(x)).append('|');
            x.drop();
        }
        return text.toString();
    }

    /** Everything that can be told of the object, which is spent afterwards. */
    static String dump(BasicStrings x) {
        StringBuilder text = new StringBuilder("used " + x.used());
        for (int v = 0; v < 6; v++) {
            text.append(" v").append(v).append('=').append(variable(x, v));
        }
        text.append(" pile ").append(emptied(x));
        for (int v = 0; v < 6; v++) {
            x.repeat(0, 0);
            x.let(v);
        }
        x.literal();
        return text.append(" line ").append(top(x)).toString();
    }

    private static String shown(Object answer) {
        StringBuilder text = new StringBuilder();
        for (char c : answer.toString().toCharArray()) {
            text.append(c >= ' ' && c < 127 ? String.valueOf(c) : "<" + (int) c + ">");
        }
        return text.toString();
    }
}
