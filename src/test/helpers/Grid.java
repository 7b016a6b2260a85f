import java.util.List;
import java.util.function.BiConsumer;
import java.util.regex.Matcher;
import java.util.regex.Pattern;

/** Every call with every number at a limit, in states that are at limits themselves. */
final class Grid {
    interface Visitor {
        void visit(String state, Call call, int a, int b);
    }

    /** The states, each as the calls that lead to it from a new object. */
    static final List<String> STATES = List.of(
            "",
            "key(0) key(255) literal()",
            "repeat(0,0) repeat(0,0) repeat(0,0) repeat(0,0)",
            "repeat(5,97) let(5) push(5) repeat(1,98) key(99) literal() repeat(0,0)",
            "repeat(1,0) let(0) repeat(40,255) repeat(40,7)",
            "repeat(20,1) let(0) repeat(39,2) repeat(1,3) join() repeat(40,4) repeat(0,9)",
            "repeat(40,1) let(0) repeat(40,2) let(5) repeat(20,3) let(1)",
            "repeat(40,1) let(0) repeat(40,2) let(5) repeat(19,3) let(1)",
            "repeat(40,1) let(5) key(1) literal() push(5) repeat(18,3) repeat(1,0)",
            "key(8) key(9) repeat(10,8) let(0) push(0) let(1) push(0) let(2) push(0) let(3) push(0) let(4)"
                    + " push(0) let(5) push(0) push(1) push(2) push(5)",
            "repeat(40,1) let(0) repeat(40,2) let(1) repeat(1,8) let(2)" + " key(6)".repeat(40));

    private static final int[] NUMBERS = {Checks.LEAST, Checks.LEAST + 1, -256, -2, -1, 0, 1, 2, 4, 5, 6, 7, 10, 19, 39,
        40, 41, 42, 254, 255, 256, 257, Checks.GREATEST - 1, Checks.GREATEST};
    private static final int[] NO_NUMBER = {0};
    private static final Pattern STEP = Pattern.compile("(\\w+)\\((\\d*),?(\\d*)\\)");

    private Grid() {
    }

    static void each(Visitor visitor) {
        for (String state : STATES) {
            for (Call call : Call.ALL) {
                for (int a : call.kinds().length() > 0 ? NUMBERS : NO_NUMBER) {
                    for (int b : call.kinds().length() > 1 ? NUMBERS : NO_NUMBER) {
                        visitor.visit(state, call, a, b);
                    }
                }
            }
        }
    }

    static BasicStrings program(String state) {
        BasicStrings x = new BasicStrings();
        steps(state, (call, numbers) -> call.program().answer(x, numbers[0], numbers[1]));
        return x;
    }

    static Model model(String state) {
        Model m = new Model();
        steps(state, (call, numbers) -> call.model().answer(m, numbers[0], numbers[1]));
        return m;
    }

    private static void steps(String state, BiConsumer<Call, int[]> step) {
        Matcher text = STEP.matcher(state);
        while (text.find()) {
            step.accept(Call.of(text.group(1)), new int[] {number(text.group(2)), number(text.group(3))});
        }
    }

    private static int number(String digits) {
        return digits.isEmpty() ? 0 : Integer.parseInt(digits);
    }
}
