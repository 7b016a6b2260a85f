public final class BasicStrings {
    public static final int BAD_ARG = -1;
    public static final int FULL = -2;
    public static final int TOO_FEW = -3;
    public static final int LONG = -5;

    private static final int VARIABLES = 6;
    private static final int PILE_LIMIT = 4;
    private static final int PILE_START = VARIABLES;
    private static final int LINE = PILE_START + PILE_LIMIT;
    private static final int SLOTS = LINE + 1;
    private static final int LONGEST = 40;
    private static final int CELLS = SLOTS * LONGEST;
    private static final int STORE = 100;
    private static final int GREATEST = 255;

    // The variables, the pile from its bottom up, and the keyboard line are slots of one
    // array, so that a string is copied and measured in the same way wherever it lies.
    // Every slot has room for the longest string: a string never has to be moved to make
    // room for another, and USED alone says when the store is full.
    private final int[] cells = new int[CELLS];
    private final int[] lengths = new int[SLOTS];
    private int depth = 0;

    public BasicStrings() {
    }

    public int key(int c) {
        if (!isByte(c)) {
            return BAD_ARG;
        }
        int count = lengths[LINE];
        if (count >= LONGEST) {
            return LONG;
        }
        cells[LINE * LONGEST + count] = c;
        lengths[LINE] = count + 1;
        return count + 1;
    }

    public void newLine() {
        lengths[LINE] = 0;
    }

    public int literal() {
        return putCopyOf(LINE);
    }

    public int push(int v) {
        if (!isVariable(v)) {
            return BAD_ARG;
        }
        return putCopyOf(v);
    }

    public int let(int v) {
        if (!isVariable(v)) {
            return BAD_ARG;
        }
        if (depth < 1) {
            return TOO_FEW;
        }
        int top = topSlot();
        copyString(top, v);
        depth--;
        return lengths[v];
    }

    public int drop() {
        if (depth < 1) {
            return TOO_FEW;
        }
        int count = lengths[topSlot()];
        depth--;
        return count;
    }

    public int join() {
        if (depth < 2) {
            return TOO_FEW;
        }
        int y = topSlot();
        int x = y - 1;
        int count = lengths[x] + lengths[y];
        if (count > LONGEST) {
            return LONG;
        }
        copyCells(y * LONGEST, x * LONGEST + lengths[x], lengths[y]);
        lengths[x] = count;
        depth--;
        return count;
    }

    public int left(int n) {
        if (!isByte(n)) {
            return BAD_ARG;
        }
        if (depth < 1) {
            return TOO_FEW;
        }
        return keepOfTop(0, n);
    }

    public int right(int n) {
        if (!isByte(n)) {
            return BAD_ARG;
        }
        if (depth < 1) {
            return TOO_FEW;
        }
        int count = lengths[topSlot()];
        return keepOfTop(n < count ? count - n : 0, n);
    }

    public int mid(int i, int n) {
        if (!isPlace(i) || !isByte(n)) {
            return BAD_ARG;
        }
        if (depth < 1) {
            return TOO_FEW;
        }
        return keepOfTop(i - 1, n);
    }

    public int repeat(int n, int c) {
        if (!isByte(n) || !isByte(c)) {
            return BAD_ARG;
        }
        if (depth >= PILE_LIMIT) {
            return FULL;
        }
        if (n > LONGEST) {
            return LONG;
        }
        if (!hasRoomFor(n)) {
            return FULL;
        }
        depth++;
        int top = topSlot();
        for (int k = 0; k < n; k++) {
            cells[top * LONGEST + k] = c;
        }
        lengths[top] = n;
        return n;
    }

    public int compare() {
        if (depth < 2) {
            return TOO_FEW;
        }
        int y = topSlot();
        depth -= 2;
        return orderOf(y - 1, y);
    }

    public int find(int u, int v) {
        if (!isVariable(u) || !isVariable(v)) {
            return BAD_ARG;
        }
        // An empty v is found at the first place that u has, and an empty u has none.
        for (int start = 0; start < lengths[u]; start++) {
            if (beginsAt(u, start, v)) {
                return start + 1;
            }
        }
        return 0;
    }

    public int setMid(int v, int i) {
        if (!isVariable(v) || !isPlace(i)) {
            return BAD_ARG;
        }
        if (depth < 1) {
            return TOO_FEW;
        }
        int top = topSlot();
        int count = countFrom(v, i - 1, lengths[top]);
        copyCells(top * LONGEST, v * LONGEST + i - 1, count);
        depth--;
        return count;
    }

    public int swap(int u, int v) {
        if (!isVariable(u) || !isVariable(v)) {
            return BAD_ARG;
        }
        for (int k = 0; k < LONGEST; k++) {
            int kept = cells[u * LONGEST + k];
            cells[u * LONGEST + k] = cells[v * LONGEST + k];
            cells[v * LONGEST + k] = kept;
        }
        int keptLength = lengths[u];
        lengths[u] = lengths[v];
        lengths[v] = keptLength;
        return 0;
    }

    public int length(int v) {
        return isVariable(v) ? lengths[v] : BAD_ARG;
    }

    public int at(int v, int i) {
        return isVariable(v) ? characterOf(v, i) : 0;
    }

    public int pile() {
        return depth;
    }

    public int topLength() {
        return depth < 1 ? TOO_FEW : lengths[topSlot()];
    }

    public int topAt(int i) {
        if (depth < 1) {
            return 0;
        }
        int top = topSlot();
        return characterOf(top, i);
    }

    public int used() {
        return sumOfLengths();
    }

    private static boolean isByte(int n) {
        return n >= 0 && n <= GREATEST;
    }

    private static boolean isPlace(int i) {
        return i >= 1 && i <= GREATEST;
    }

    private static boolean isVariable(int v) {
        return v >= 0 && v < VARIABLES;
    }

    // Only where the pile is not empty: else this is the slot of a variable.
    private int topSlot() {
        return PILE_START + depth - 1;
    }

    private int sumOfLengths() {
        // The slots above the top still hold what was taken off, and don't count.
        int sum = 0;
        for (int slot = 0; slot < PILE_START + depth; slot++) {
            sum += lengths[slot];
        }
        return sum;
    }

    private boolean hasRoomFor(int count) {
        return sumOfLengths() + count <= STORE;
    }

    private int putCopyOf(int slot) {
        if (depth >= PILE_LIMIT || !hasRoomFor(lengths[slot])) {
            return FULL;
        }
        depth++;
        int top = topSlot();
        copyString(slot, top);
        return lengths[top];
    }

    private void copyString(int from, int to) {
        copyCells(from * LONGEST, to * LONGEST, lengths[from]);
        lengths[to] = lengths[from];
    }

    // Goes upwards, so that a string can be moved down over its own beginning.
    private void copyCells(int from, int to, int count) {
        for (int k = 0; k < count; k++) {
            cells[to + k] = cells[from + k];
        }
    }

    private int keepOfTop(int start, int n) {
        int top = topSlot();
        int count = countFrom(top, start, n);
        copyCells(top * LONGEST + start, top * LONGEST, count);
        lengths[top] = count;
        return count;
    }

    // How many of n characters the string has from start on; a start beyond its end has none.
    private int countFrom(int slot, int start, int n) {
        int there = lengths[slot] - start;
        if (there < 0) {
            return 0;
        }
        return n < there ? n : there;
    }

    private int orderOf(int x, int y) {
        int common = countFrom(x, 0, lengths[y]);
        for (int k = 0; k < common; k++) {
            int a = cells[x * LONGEST + k];
            int b = cells[y * LONGEST + k];
            if (a != b) {
                return a < b ? 1 : 2;
            }
        }
        if (lengths[x] == lengths[y]) {
            return 0;
        }
        return lengths[x] < lengths[y] ? 1 : 2;
    }

    private boolean beginsAt(int u, int start, int v) {
        if (start + lengths[v] > lengths[u]) {
            return false;
        }
        for (int k = 0; k < lengths[v]; k++) {
            if (cells[u * LONGEST + start + k] != cells[v * LONGEST + k]) {
                return false;
            }
        }
        return true;
    }

    private int characterOf(int slot, int i) {
        if (i < 1 || i > lengths[slot]) {
            return 0;
        }
        return cells[slot * LONGEST + i - 1];
    }
}
