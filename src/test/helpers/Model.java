import java.util.ArrayList;
import java.util.Arrays;
import java.util.List;

/** The document once more, plainly, over Java's own strings; its methods are those of the program. */
final class Model {
    private final String[] variables = new String[6];
    private final List<String> pile = new ArrayList<>();
    private String line = "";

    Model() {
        Arrays.fill(variables, "");
    }

    /** In the form of the dump of Checks. */
    String dump() {
        StringBuilder text = new StringBuilder("used " + used());
        for (int v = 0; v < 6; v++) {
            text.append(" v").append(v).append('=').append(variables[v]);
        }
        text.append(" pile |");
        for (int k = pile.size() - 1; k >= 0; k--) {
            text.append(pile.get(k)).append('|');
        }
        return text.append(" line ").append(line).toString();
    }

    int key(int c) {
        if (outside(c, 0)) return -1;
        if (line.length() == 40) return -5;
        line += (char) c;
        return line.length();
    }

    void newLine() {
        line = "";
    }

    int literal() {
        return add(line);
    }

    int push(int v) {
        return variable(v) ? add(variables[v]) : -1;
    }

    int let(int v) {
        if (!variable(v)) return -1;
        if (pile.isEmpty()) return -3;
        variables[v] = take();
        return variables[v].length();
    }

    int drop() {
        return pile.isEmpty() ? -3 : take().length();
    }

    int join() {
        if (pile.size() < 2) return -3;
        String joined = pile.get(pile.size() - 2) + top();
        if (joined.length() > 40) return -5;
        take();
        take();
        pile.add(joined);
        return joined.length();
    }

    int left(int n) {
        return outside(n, 0) ? -1 : change(0, n);
    }

    int right(int n) {
        return outside(n, 0) ? -1 : change(pile.isEmpty() ? 0 : Math.max(0, top().length() - n), n);
    }

    int mid(int i, int n) {
        return outside(i, 1) || outside(n, 0) ? -1 : change(i - 1, n);
    }

    int repeat(int n, int c) {
        return outside(n, 0) || outside(c, 0) ? -1 : add(String.valueOf((char) c).repeat(n));
    }

    int compare() {
        if (pile.size() < 2) return -3;
        String second = take();
        int order = take().compareTo(second);
        return order == 0 ? 0 : order < 0 ? 1 : 2;
    }

    int find(int u, int v) {
        if (!variable(u) || !variable(v)) return -1;
        return variables[u].isEmpty() ? 0 : variables[u].indexOf(variables[v]) + 1;
    }

    int setMid(int v, int i) {
        if (!variable(v) || outside(i, 1)) return -1;
        if (pile.isEmpty()) return -3;
        String by = take();
        StringBuilder text = new StringBuilder(variables[v]);
        int count = 0;
        while (count < by.length() && i - 1 + count < text.length()) {
            text.setCharAt(i - 1 + count, by.charAt(count));
            count++;
        }
        variables[v] = text.toString();
        return count;
    }

    int swap(int u, int v) {
        if (!variable(u) || !variable(v)) return -1;
        String kept = variables[u];
        variables[u] = variables[v];
        variables[v] = kept;
        return 0;
    }

    int length(int v) {
        return variable(v) ? variables[v].length() : -1;
    }

    int at(int v, int i) {
        return variable(v) ? character(variables[v], i) : 0;
    }

    int pile() {
        return pile.size();
    }

    int topLength() {
        return pile.isEmpty() ? -3 : top().length();
    }

    int topAt(int i) {
        return pile.isEmpty() ? 0 : character(top(), i);
    }

    int used() {
        return String.join("", variables).length() + String.join("", pile).length();
    }

    private static boolean variable(int v) {
        return 0 <= v && v <= 5;
    }

    private static boolean outside(int n, int least) {
        return n < least || n > 255;
    }

    private static int character(String text, int i) {
        return i >= 1 && i <= text.length() ? text.charAt(i - 1) : 0;
    }

    private String top() {
        return pile.get(pile.size() - 1);
    }

    private String take() {
        return pile.remove(pile.size() - 1);
    }

    private int add(String text) {
        if (pile.size() == 4) return -2;
        if (text.length() > 40) return -5;
        if (used() + text.length() > 100) return -2;
        pile.add(text);
        return text.length();
    }

    private int change(int start, int n) {
        if (pile.isEmpty()) return -3;
        String text = take();
        int from = Math.min(start, text.length());
        pile.add(text.substring(from, Math.min(from + n, text.length())));
        return top().length();
    }
}
