import java.util.ArrayList;
import java.util.Arrays;
import java.util.List;

/** Long mixed runs of calls, each answer compared with that of a plain model over Java's own strings. */
public final class ModelTest {
    private static final int RUNS = 6000;
    // With a used() for each, and what the dump takes, a run stays under the 512 calls that are promised.
    private static final int CALLS = 160;

    private static final Checks checks = new Checks();
    private static long seed = 1;

    public static void main(String[] args) {
        for (int run = 0; run < RUNS; run++) {
            oneRun(run);
        }
        checks.end();
    }

    private static void oneRun(int run) {
        BasicStrings x = new BasicStrings();
        Model model = new Model();
        for (int k = 0; k < CALLS; k++) {
            int call = below(22);
            // Few different characters, so that strings are often alike.
            int c = below(30) == 0 ? odd() : below(3) * 127;
            int v = below(40) == 0 ? odd() : below(6);
            int u = below(40) == 0 ? odd() : below(6);
            int n = below(30) == 0 ? odd() : below(run % 2 == 0 ? 8 : 43);
            String name = "run " + run + ", call " + k + ": " + call + " with c " + c + " v " + v + " u " + u + " n " + n;
            checks.due(name, answerOf(x, call, c, v, u, n), model.answer(call, c, v, u, n));
            checks.due(name + ", used", x.used(), model.used());
        }
        checks.due("run " + run + ": the state", Checks.dump(x), model.dump());
    }

    private static int below(int bound) {
        seed = seed * 6364136223846793005L + 1442695040888963407L;
        return (int) ((seed >>> 33) % bound);
    }

    private static int odd() {
        int[] numbers = {-1, 0, 1, 5, 6, 39, 40, 41, 254, 255, 256, Integer.MIN_VALUE, Integer.MAX_VALUE};
        return numbers[below(numbers.length)];
    }

    private static int answerOf(BasicStrings x, int call, int c, int v, int u, int n) {
        switch (call) {
            case 0: case 1: case 2: return x.key(c);
            case 3: if (n % 4 == 0) x.newLine(); return 0;
            case 4: return x.literal();
            case 5: return x.push(v);
            case 6: return x.let(v);
            case 7: return n % 4 == 0 ? x.drop() : 0;
            case 8: return x.join();
            case 9: return x.left(n);
            case 10: return x.right(n);
            case 11: return x.mid(c % 128 == 0 ? 1 : n, u);
            case 12: return x.repeat(n, c);
            case 13: return x.compare();
            case 14: return x.find(u, v);
            case 15: return x.setMid(v, n);
            case 16: return x.swap(u, v);
            case 17: return x.length(v);
            case 18: return x.at(v, n);
            case 19: return x.pile();
            case 20: return x.topLength();
            default: return x.topAt(n);
        }
    }

    private static final class Model {
        private final String[] variables = new String[6];
        private final List<String> pile = new ArrayList<>();
        private String line = "";

        Model() {
            Arrays.fill(variables, "");
        }

        int used() {
            return String.join("", variables).length() + String.join("", pile).length();
        }

        String dump() {
            StringBuilder text = new StringBuilder("used " + used());
            for (int v = 0; v < 6; v++) {
                text.append(" v").append(v).append('=').append(variables[v]);
            }
            text.append(" pile |");
            for (int k = pile.size() - 1; k >= 0; k--) {
                text.append(pile.get(k)).append('|');
            }
            return text.append(" line ").append(line).toString();
        }

        int answer(int call, int c, int v, int u, int n) {
            switch (call) {
                case 0: case 1: case 2: return key(c);
                case 3: if (n % 4 == 0) line = ""; return 0;
                case 4: return add(line);
                case 5: return variable(v) ? add(variables[v]) : -1;
                case 6: return let(v);
                case 7: return n % 4 != 0 ? 0 : pile.isEmpty() ? -3 : take().length();
                case 8: return join();
                case 9: return outside(n, 0) ? -1 : change(0, n);
                case 10: return outside(n, 0) ? -1 : change(pile.isEmpty() ? 0 : Math.max(0, top().length() - n), n);
                case 11: return mid(c % 128 == 0 ? 1 : n, u);
                case 12: return repeat(n, c);
                case 13: return compare();
                case 14: return find(u, v);
                case 15: return setMid(v, n);
                case 16: return swap(u, v);
                case 17: return variable(v) ? variables[v].length() : -1;
                case 18: return variable(v) ? character(variables[v], n) : 0;
                case 19: return pile.size();
                case 20: return pile.isEmpty() ? -3 : top().length();
                default: return pile.isEmpty() ? 0 : character(top(), n);
            }
        }

        private static boolean variable(int v) {
            return 0 <= v && v <= 5;
        }

        private static boolean outside(int n, int least) {
            return n < least || n > 255;
        }

        private static int character(String text, int i) {
            return i >= 1 && i <= text.length() ? text.charAt(i - 1) : 0;
        }

        private String top() {
            return pile.get(pile.size() - 1);
        }

        private String take() {
            return pile.remove(pile.size() - 1);
        }

        private int key(int c) {
            if (outside(c, 0)) return -1;
            if (line.length() == 40) return -5;
            line += (char) c;
            return line.length();
        }

        private int add(String text) {
            if (pile.size() == 4) return -2;
            if (text.length() > 40) return -5;
            if (used() + text.length() > 100) return -2;
            pile.add(text);
            return text.length();
        }

        private int let(int v) {
            if (!variable(v)) return -1;
            if (pile.isEmpty()) return -3;
            variables[v] = take();
            return variables[v].length();
        }

        private int join() {
            if (pile.size() < 2) return -3;
            String joined = pile.get(pile.size() - 2) + top();
            if (joined.length() > 40) return -5;
            take();
            take();
            pile.add(joined);
            return joined.length();
        }

        private int change(int start, int n) {
            if (pile.isEmpty()) return -3;
            String text = take();
            int from = Math.min(start, text.length());
            pile.add(text.substring(from, Math.min(from + n, text.length())));
            return top().length();
        }

        private int mid(int i, int n) {
            return outside(i, 1) || outside(n, 0) ? -1 : change(i - 1, n);
        }

        private int repeat(int n, int c) {
            return outside(n, 0) || outside(c, 0) ? -1 : add(String.valueOf((char) c).repeat(n));
        }

        private int compare() {
            if (pile.size() < 2) return -3;
            String second = take();
            int order = take().compareTo(second);
            return order == 0 ? 0 : order < 0 ? 1 : 2;
        }

        private int find(int u, int v) {
            if (!variable(u) || !variable(v)) return -1;
            return variables[u].isEmpty() ? 0 : variables[u].indexOf(variables[v]) + 1;
        }

        private int setMid(int v, int i) {
            if (!variable(v) || outside(i, 1)) return -1;
            if (pile.isEmpty()) return -3;
            String by = take();
            StringBuilder text = new StringBuilder(variables[v]);
            int count = 0;
            while (count < by.length() && i - 1 + count < text.length()) {
                text.setCharAt(i - 1 + count, by.charAt(count));
                count++;
            }
            variables[v] = text.toString();
            return count;
        }

        private int swap(int u, int v) {
            if (!variable(u) || !variable(v)) return -1;
            String kept = variables[u];
            variables[u] = variables[v];
            variables[v] = kept;
            return 0;
        }
    }
}
