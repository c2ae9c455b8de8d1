/** Arrays of numbers kept in formats that leave out zeros, and formulas over them with sums over indices. */
public final class SparseFormulas {
    public static final int BAD_ARG = -1000000001;
    public static final int FULL = -1000000002;
    public static final int TOO_FEW = -1000000003;
    public static final int NONE = -1000000004;
    public static final int MISMATCH = -1000000005;

    private static final int REGISTERS = 6;
    private static final int SIDE = 6;
    private static final int PLACES = SIDE * SIDE;
    private static final int REGISTER_CELLS = REGISTERS * PLACES;

    private static final int INDICES = 3;
    private static final int NO_INDEX = -1;
    private static final int MAX_PARTS = 20;
    private static final int MAX_COPIES = 6;
    private static final int COPY_CELLS = MAX_COPIES * PLACES;
    private static final int MAX_DEPTH = 6;
    private static final int SPAN_CELLS = MAX_DEPTH * INDICES;
    private static final int MAX_CONSTANT = 99;

    private static final int ADD = 0;
    private static final int SUBTRACT = 1;
    private static final int MULTIPLY = 2;
    private static final int PUSH_CONSTANT = 3;
    private static final int PUSH_ARRAY = 4;
    private static final int NEGATE = 5;

    private static final int ABSENT = 0;
    private static final int SEVERAL = -1;

    // A rank that has no rows or columns of its own counts as one row or one column,
    // so every register is a block of rows times columns. Cells outside that block are 0.
    private final int[] ranks = new int[REGISTERS];
    private final int[] rows = new int[REGISTERS];
    private final int[] columns = new int[REGISTERS];
    private final int[] formats = new int[REGISTERS];
    private final int[] numbers = new int[REGISTER_CELLS];

    // All formulas on the stack together are one row of parts in postfix order:
    // parts leave only when the stack is emptied, so a single formula is the whole row.
    private final int[] partKinds = new int[MAX_PARTS];
    private final int[] partArguments = new int[MAX_PARTS];
    private int parts;
    private int depth;

    // A formula keeps the numbers an array had when it was pushed, whatever happens to the register later.
    private final int[] copiedNumbers = new int[COPY_CELLS];
    private final int[] firstIndices = new int[MAX_COPIES];
    private final int[] secondIndices = new int[MAX_COPIES];
    private int copies;

    // For each formula on the stack and each index: its length, ABSENT or SEVERAL.
    private final int[] spans = new int[SPAN_CELLS];

    private final int[] indexNumbers = new int[INDICES];
    private final int[] values = new int[MAX_DEPTH];

    public SparseFormulas() {
        for (int r = 0; r < REGISTERS; r++) {
            shape(r, 0, 1, 1, 0);
        }
        emptyStack();
    }

    public int make(int r, int n, int m, int format) {
        if (!isRegister(r) || n < 0 || n > SIDE || m < 0 || m > SIDE || (n == 0 && m != 0)) {
            return BAD_ARG;
        }
        int rank = n == 0 ? 0 : m == 0 ? 1 : 2;
        if (!isFormat(rank, format)) {
            return BAD_ARG;
        }
        int height = n == 0 ? 1 : n;
        int width = m == 0 ? 1 : m;
        shape(r, rank, height, width, format);
        return rank;
    }

    public int get(int r, int i, int j) {
        if (!isRegister(r)) {
            return BAD_ARG;
        }
        if (!isPlace(r, i, j)) {
            return NONE;
        }
        return numbers[r * PLACES + i * SIDE + j];
    }

    public int put(int r, int i, int j, int x) {
        if (!isRegister(r)) {
            return BAD_ARG;
        }
        if (!isPlace(r, i, j)) {
            return NONE;
        }
        int cell = r * PLACES + i * SIDE + j;
        int before = numbers[cell];
        numbers[cell] = x;
        return before;
    }

    public int format(int r, int f) {
        if (!isRegister(r) || !isFormat(ranks[r], f)) {
            return BAD_ARG;
        }
        formats[r] = f;
        return countRoom(r);
    }

    public int room(int r) {
        return isRegister(r) ? countRoom(r) : BAD_ARG;
    }

    public int filled(int r) {
        return isRegister(r) ? countFilled(r) : BAD_ARG;
    }

    public int length(int r, int k) {
        if (!isRegister(r) || k < 0 || k > 1) {
            return BAD_ARG;
        }
        return k == 0 ? rows[r] : columns[r];
    }

    public int pattern(int r, int i) {
        if (!isRegister(r)) {
            return BAD_ARG;
        }
        if (i < 0 || i >= rows[r]) {
            return NONE;
        }
        int set = 0;
        for (int j = 0; j < columns[r]; j++) {
            if (numbers[r * PLACES + i * SIDE + j] != 0) {
                set += 1 << j;
            }
        }
        return set;
    }

    public int turn(int r) {
        if (!isRegister(r)) {
            return BAD_ARG;
        }
        if (ranks[r] != 2) {
            return NONE;
        }
        swapAcrossDiagonal(r);
        int height = rows[r];
        rows[r] = columns[r];
        columns[r] = height;
        formats[r] = formats[r] < 4 ? formats[r] + 4 : formats[r] - 4;
        return rows[r];
    }

    public boolean same(int r, int s) {
        if (!isRegister(r) || !isRegister(s)) {
            return false;
        }
        if (ranks[r] != ranks[s] || rows[r] != rows[s] || columns[r] != columns[s]) {
            return false;
        }
        for (int place = 0; place < PLACES; place++) {
            if (numbers[r * PLACES + place] != numbers[s * PLACES + place]) {
                return false;
            }
        }
        return true;
    }

    public int digest(int r) {
        if (!isRegister(r)) {
            return BAD_ARG;
        }
        int sum = 0;
        for (int i = 0; i < rows[r]; i++) {
            for (int j = 0; j < columns[r]; j++) {
                sum += (7 * i + j + 1) * numbers[r * PLACES + i * SIDE + j];
            }
        }
        return sum;
    }

    public int array(int r, int p, int q) {
        if (!isRegister(r) || !areIndicesOfRank(ranks[r], p, q)) {
            return BAD_ARG;
        }
        if (parts >= MAX_PARTS || copies >= MAX_COPIES || depth >= MAX_DEPTH) {
            return FULL;
        }
        copyRegister(r);
        firstIndices[copies] = p;
        secondIndices[copies] = q;
        addPart(PUSH_ARRAY, copies);
        copies++;
        pushWithoutIndices();
        if (p != NO_INDEX) {
            spans[(depth - 1) * INDICES + p] = rows[r];
        }
        if (q != NO_INDEX) {
            spans[(depth - 1) * INDICES + q] = columns[r];
        }
        return depth;
    }

    public int constant(int k) {
        if (k < -MAX_CONSTANT || k > MAX_CONSTANT) {
            return BAD_ARG;
        }
        if (parts >= MAX_PARTS || depth >= MAX_DEPTH) {
            return FULL;
        }
        addPart(PUSH_CONSTANT, k);
        pushWithoutIndices();
        return depth;
    }

    public int negate() {
        if (parts >= MAX_PARTS) {
            return FULL;
        }
        if (depth < 1) {
            return TOO_FEW;
        }
        addPart(NEGATE, 0);
        return depth;
    }

    public int join(int op) {
        if (op < ADD || op > MULTIPLY) {
            return BAD_ARG;
        }
        if (parts >= MAX_PARTS) {
            return FULL;
        }
        if (depth < 2) {
            return TOO_FEW;
        }
        addPart(op, 0);
        depth--;
        for (int p = 0; p < INDICES; p++) {
            int left = (depth - 1) * INDICES + p;
            int right = depth * INDICES + p;
            spans[left] = commonSpan(spans[left], spans[right]);
        }
        return depth;
    }

    public void scrap() {
        emptyStack();
    }

    public int span(int p) {
        if (p < 0 || p >= INDICES) {
            return BAD_ARG;
        }
        if (depth < 1) {
            return NONE;
        }
        int found = spans[(depth - 1) * INDICES + p];
        return found == ABSENT ? NONE : found == SEVERAL ? MISMATCH : found;
    }

    public int assign(int to, int p, int q, int format) {
        int rank = p == NO_INDEX ? 0 : q == NO_INDEX ? 1 : 2;
        if (!isRegister(to) || !areIndicesOfRank(rank, p, q) || !isFormat(rank, format)) {
            return BAD_ARG;
        }
        if (depth != 1) {
            return TOO_FEW;
        }
        if ((p != NO_INDEX && spans[p] == ABSENT) || (q != NO_INDEX && spans[q] == ABSENT)) {
            return NONE;
        }
        if (spans[0] == SEVERAL || spans[1] == SEVERAL || spans[2] == SEVERAL) {
            return MISMATCH;
        }
        int height = p == NO_INDEX ? 1 : spans[p];
        int width = q == NO_INDEX ? 1 : spans[q];
        shape(to, rank, height, width, format);
        addUpFormula(to, p, q);
        emptyStack();
        return countRoom(to);
    }

    private static boolean isRegister(int r) {
        return r >= 0 && r < REGISTERS;
    }

    private static boolean isFormat(int rank, int f) {
        int last = rank == 0 ? 0 : rank == 1 ? 1 : 7;
        return f >= 0 && f <= last;
    }

    private boolean isPlace(int r, int i, int j) {
        return i >= 0 && i < rows[r] && j >= 0 && j < columns[r];
    }

    private static boolean areIndicesOfRank(int rank, int p, int q) {
        if (rank == 0) {
            return p == NO_INDEX && q == NO_INDEX;
        }
        if (p < 0 || p >= INDICES) {
            return false;
        }
        if (rank == 1) {
            return q == NO_INDEX;
        }
        return q >= 0 && q < INDICES && p != q;
    }

    private void shape(int r, int rank, int height, int width, int f) {
        ranks[r] = rank;
        rows[r] = height;
        columns[r] = width;
        formats[r] = f;
        for (int place = 0; place < PLACES; place++) {
            numbers[r * PLACES + place] = 0;
        }
    }

    private int countFilled(int r) {
        int count = 0;
        for (int place = 0; place < PLACES; place++) {
            if (numbers[r * PLACES + place] != 0) {
                count++;
            }
        }
        return count;
    }

    private int countRoom(int r) {
        if (ranks[r] == 0) {
            return 1;
        }
        if (ranks[r] == 1) {
            return formats[r] == 0 ? rows[r] : countFilled(r);
        }
        boolean byColumns = formats[r] >= 4;
        boolean filledLinesOnly = (formats[r] & 2) != 0;
        boolean filledPlacesOnly = (formats[r] & 1) != 0;
        int lines = byColumns ? columns[r] : rows[r];
        int lineLength = byColumns ? rows[r] : columns[r];
        int count = 0;
        for (int line = 0; line < lines; line++) {
            int filledInLine = countFilledInLine(r, line, byColumns);
            if (filledPlacesOnly) {
                count += filledInLine;
            } else if (filledInLine > 0 || !filledLinesOnly) {
                count += lineLength;
            }
        }
        return count;
    }

    private int countFilledInLine(int r, int line, boolean byColumns) {
        int count = 0;
        for (int k = 0; k < SIDE; k++) {
            int place = byColumns ? k * SIDE + line : line * SIDE + k;
            if (numbers[r * PLACES + place] != 0) {
                count++;
            }
        }
        return count;
    }

    private void swapAcrossDiagonal(int r) {
        for (int i = 0; i < SIDE; i++) {
            for (int j = 0; j < i; j++) {
                int below = r * PLACES + i * SIDE + j;
                int above = r * PLACES + j * SIDE + i;
                int kept = numbers[below];
                numbers[below] = numbers[above];
                numbers[above] = kept;
            }
        }
    }

    private void emptyStack() {
        parts = 0;
        copies = 0;
        depth = 0;
    }

    private void addPart(int kind, int argument) {
        partKinds[parts] = kind;
        partArguments[parts] = argument;
        parts++;
    }

    private void copyRegister(int r) {
        for (int place = 0; place < PLACES; place++) {
            copiedNumbers[copies * PLACES + place] = numbers[r * PLACES + place];
        }
    }

    private void pushWithoutIndices() {
        for (int p = 0; p < INDICES; p++) {
            spans[depth * INDICES + p] = ABSENT;
        }
        depth++;
    }

    private static int commonSpan(int left, int right) {
        if (left == ABSENT || left == right) {
            return right;
        }
        return right == ABSENT ? left : SEVERAL;
    }

    // An index that does not stand in the formula takes one number, so that it adds no repeats to the sum.
    private void addUpFormula(int to, int p, int q) {
        int length0 = spans[0] == ABSENT ? 1 : spans[0];
        int length1 = spans[1] == ABSENT ? 1 : spans[1];
        int length2 = spans[2] == ABSENT ? 1 : spans[2];
        for (int a = 0; a < length0; a++) {
            indexNumbers[0] = a;
            for (int b = 0; b < length1; b++) {
                indexNumbers[1] = b;
                for (int c = 0; c < length2; c++) {
                    indexNumbers[2] = c;
                    int place = placeAt(p, q);
                    numbers[to * PLACES + place] += formulaValue();
                }
            }
        }
    }

    private int placeAt(int p, int q) {
        int i = p == NO_INDEX ? 0 : indexNumbers[p];
        int j = q == NO_INDEX ? 0 : indexNumbers[q];
        return i * SIDE + j;
    }

    private int formulaValue() {
        int height = 0;
        for (int part = 0; part < parts; part++) {
            int kind = partKinds[part];
            if (kind == PUSH_CONSTANT) {
                values[height] = partArguments[part];
                height++;
            } else if (kind == PUSH_ARRAY) {
                values[height] = copiedNumber(partArguments[part]);
                height++;
            } else if (kind == NEGATE) {
                values[height - 1] = -values[height - 1];
            } else {
                height--;
                values[height - 1] = joined(kind, values[height - 1], values[height]);
            }
        }
        return values[0];
    }

    private int copiedNumber(int copy) {
        int place = placeAt(firstIndices[copy], secondIndices[copy]);
        return copiedNumbers[copy * PLACES + place];
    }

    private static int joined(int op, int x, int y) {
        return op == ADD ? x + y : op == SUBTRACT ? x - y : x * y;
    }
}
