import java.util.ArrayList;
import java.util.List;
import java.util.function.Consumer;
import java.util.function.ToIntBiFunction;
import java.util.function.ToIntFunction;

/** What the tests share: counting wrong answers, and reading and filling an object. */
final class Checks {
    static final int BAD_ARG = -1;
    static final int FULL = -2;
    static final int TOO_FEW = -3;
    static final int LONG = -5;

    static final int LEAST = Integer.MIN_VALUE;
    static final int GREATEST = Integer.MAX_VALUE;

    // Each begins with the two numbers that are the first not allowed.
    static final int[] NO_VARIABLES = {-1, 6, 7, 10, 11, 255, 256, LEAST, LEAST + 1, GREATEST};
    static final int[] NO_BYTES = {-1, 256, 257, -255, -256, 65536, LEAST, LEAST + 1, GREATEST};
    static final int[] NO_PLACES = {0, 256, -1, 257, -255, 65537, LEAST, LEAST + 1, GREATEST};

    /** The words of the document that a test stood for, each as its section and itself. */
    private static final List<String[]> QUOTES = new ArrayList<>();

    private int wrong = 0;
    private String sentence = "";

    /** Begins the test of these words, which must stand in that section of the document. */
    void sentence(String section, String words) {
        String text = Document.section(section);
        sentence = "";
        due(section + " says \"" + words + "\"", text.contains(words), true);
        QUOTES.add(new String[] {text, words});
        sentence = section + ", \"" + words + "\": ";
    }

    static List<String[]> quotes() {
        return QUOTES;
    }

    void due(String call, Object got, Object want) {
        if (!got.equals(want)) {
            wrong++;
            System.out.println(sentence + shown(call) + " answered " + shown(got) + ", due is " + shown(want));
        }
    }

    /** The call answers this, and leaves the object as one on which it was not made. */
    void unchanged(String name, int answer, Consumer<BasicStrings> setup, ToIntFunction<BasicStrings> call) {
        BasicStrings called = made(setup);
        due(name, call.applyAsInt(called), answer);
        due("the state after " + name, dump(called), dump(made(setup)));
    }

    void refused(String name, int code, Consumer<BasicStrings> setup, ToIntFunction<BasicStrings> call) {
        unchanged("the refused " + name, code, setup, call);
    }

    /** The call is refused with BAD_ARG for each of the numbers, which stands for the # in its name. */
    void badArgs(String name, int[] numbers, Consumer<BasicStrings> setup,
            ToIntBiFunction<BasicStrings, Integer> call) {
        for (int number : numbers) {
            String shown = name.replace("#", String.valueOf(number));
            refused(shown, BAD_ARG, setup, x -> call.applyAsInt(x, number));
        }
    }

    /** Ends the program, with exit code 1 if an answer was wrong. */
    void end() {
        System.out.println(wrong == 0 ? "all answers are as due" : wrong + " answers are not as due");
        System.exit(wrong == 0 ? 0 : 1);
    }

    static BasicStrings made(Consumer<BasicStrings> setup) {
        BasicStrings x = new BasicStrings();
        setup.accept(x);
        return x;
    }

    /** Strings of one character on the pile, USED as told, with a share for each variable, and a line. */
    static Consumer<BasicStrings> state(int strings, int used) {
        return x -> {
            int left = used - strings;
            for (int v = 0; v < 6; v++) {
                int share = left / (6 - v);
                set(x, v, some(20 * v, share));
                left -= share;
            }
            for (int k = 0; k < strings; k++) {
                put(x, some(200 + k, 1));
            }
            type(x, "line");
        };
    }

    /** Fills variables 0, 1 and 2 so that USED is the number given, at most 100. */
    static void use(BasicStrings x, int used) {
        int left = used;
        for (int v = 0; v < 3; v++) {
            int part = Math.min(40, left);
            x.repeat(part, 'u' + v);
            x.let(v);
            left -= part;
        }
    }

    /** That many characters, all different, with the greatest and the least among the first six. */
    static String some(int count) {
        return some(0, count);
    }

    static String some(int from, int count) {
        StringBuilder text = new StringBuilder();
        for (int k = 0; k < count; k++) {
            text.append((char) ((from + k) * 51 % 256));
        }
        return text.toString();
    }

    static void type(BasicStrings x, String text) {
        x.newLine();
        for (int k = 0; k < text.length(); k++) {
            x.key(text.charAt(k));
        }
    }

    static void put(BasicStrings x, String... texts) {
        for (String text : texts) {
            type(x, text);
            x.literal();
        }
    }

    static void set(BasicStrings x, int v, String text) {
        put(x, text);
        x.let(v);
    }

    /** As set, but the variable has held the longest string before, of which nothing must be seen. */
    static void setAnew(BasicStrings x, int v, String text) {
        set(x, v, "a".repeat(40));
        set(x, v, "");
        set(x, v, text);
    }

    static String variable(BasicStrings x, int v) {
        StringBuilder text = new StringBuilder();
        int length = x.length(v);
        for (int i = 1; i <= length; i++) {
            text.append((char) x.at(v, i));
        }
        return text.toString();
    }

    static String top(BasicStrings x) {
        StringBuilder text = new StringBuilder();
        int length = x.topLength();
        for (int i = 1; i <= length; i++) {
            text.append((char) x.topAt(i));
        }
        return text.toString();
    }

    /** The whole pile from its top down, between bars; the pile is empty afterwards. */
    static String emptied(BasicStrings x) {
        StringBuilder text = new StringBuilder("|");
        int strings = x.pile();
        for (int k = 0; k < strings; k++) {
            text.append(top(x)).append('|');
            x.drop();
        }
        return text.toString();
    }

    /** The keyboard line; the pile and the variables are empty afterwards, so that there is room to see it. */
    static String line(BasicStrings x) {
        emptied(x);
        for (int v = 0; v < 6; v++) {
            x.repeat(0, 0);
            x.let(v);
        }
        x.literal();
        return top(x);
    }

    /** Everything that can be told of the object, which is spent afterwards. */
    static String dump(BasicStrings x) {
        StringBuilder text = new StringBuilder("used " + x.used());
        for (int v = 0; v < 6; v++) {
            text.append(" v").append(v).append('=').append(variable(x, v));
        }
        text.append(" pile ").append(emptied(x));
        return text.append(" line ").append(line(x)).toString();
    }

    private static String shown(Object answer) {
        StringBuilder text = new StringBuilder();
        for (char c : answer.toString().toCharArray()) {
            text.append(c >= ' ' && c < 127 ? String.valueOf(c) : "<" + (int) c + ">");
        }
        return text.toString();
    }
}
