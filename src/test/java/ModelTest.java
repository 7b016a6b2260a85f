import java.util.ArrayList;
import java.util.List;

/** The answers of the program compared with those of a plain model over Java's own strings. */
public final class ModelTest {
    private static final int RUNS = 6000;
    // With a used() for each, and what the dump takes, a run stays under the 512 calls that are promised.
    private static final int CALLS = 160;
    private static final int[] ODD_NUMBERS = {-1, 0, 1, 5, 6, 39, 40, 41, 254, 255, 256, Checks.LEAST, Checks.GREATEST};
    private static final List<Call> DRAWN = drawn();

    private static final Checks checks = new Checks();
    private static long seed = 1;

    public static void main(String[] args) {
        Grid.each(ModelTest::oneCall);
        for (int run = 0; run < RUNS; run++) {
            oneRun(run);
        }
        checks.end();
    }

    private static void oneCall(String state, Call call, int a, int b) {
        BasicStrings x = Grid.program(state);
        Model model = Grid.model(state);
        String name = state + " " + call.with(a, b);
        checks.due(name, call.program().answer(x, a, b), call.model().answer(model, a, b));
        checks.due(name + ": the state", Checks.dump(x), model.dump());
    }

    private static void oneRun(int run) {
        BasicStrings x = new BasicStrings();
        Model model = new Model();
        int longest = run % 2 == 0 ? 8 : 43;
        for (int k = 0; k < CALLS; k++) {
            Call call = DRAWN.get(below(DRAWN.size()));
            int a = argument(call, 0, longest);
            int b = argument(call, 1, longest);
            String name = "run " + run + ", call " + k + ": " + call.with(a, b);
            checks.due(name, call.program().answer(x, a, b), call.model().answer(model, a, b));
            checks.due(name + ", used", x.used(), model.used());
        }
        checks.due("run " + run + ": the state", Checks.dump(x), model.dump());
    }

    /** Keys often, and rarely what empties the line or the pile, so that both grow to their limits. */
    private static List<Call> drawn() {
        List<Call> list = new ArrayList<>();
        for (Call call : Call.ALL) {
            boolean empties = call.name().equals("newLine") || call.name().equals("drop");
            int times = call.name().equals("key") ? 12 : empties ? 1 : 4;
            for (int k = 0; k < times; k++) {
                list.add(call);
            }
        }
        return list;
    }

    private static int argument(Call call, int number, int longest) {
        if (number >= call.kinds().length() || below(30) == 0) {
            return ODD_NUMBERS[below(ODD_NUMBERS.length)];
        }
        switch (call.kinds().charAt(number)) {
            case 'v': return below(6);
            // Few different characters, so that strings are often alike.
            case 'c': return below(3) * 127;
            case 'n': return below(longest);
            default: return 1 + below(longest);
        }
    }

    private static int below(int bound) {
        seed = seed * 6364136223846793005L + 1442695040888963407L;
        return (int) ((seed >>> 33) % bound);
    }
}
