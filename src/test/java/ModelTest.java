import java.util.ArrayList;
import java.util.List;
import java.util.TreeSet;

/** Long fixed runs of calls, held against a second writing of the document: formulas as trees, room place by place. */
public final class ModelTest {
    private static final int RUNS = 4000;
    private static final int CALLS = 440;

    private static final class Grid {
        final int rank;
        final int n;
        final int m;
        int format;
        final int[][] at;

        Grid(int rank, int n, int m, int format) {
            this.rank = rank;
            this.n = n;
            this.m = m;
            this.format = format;
            this.at = new int[n][m];
        }

        Grid copy() {
            Grid g = new Grid(rank, n, m, format);
            for (int i = 0; i < n; i++) {
                g.at[i] = at[i].clone();
            }
            return g;
        }

        boolean has(int i, int j) {
            return i >= 0 && i < n && j >= 0 && j < m;
        }

        boolean hasRoom(int i, int j) {
            boolean here = at[i][j] != 0;
            if (rank == 0) {
                return true;
            }
            if (rank == 1) {
                return format == 0 || here;
            }
            int t = format / 4;
            int f = format / 2 % 2;
            int s = format % 2;
            boolean line = false;
            for (int k = 0; k < (t == 0 ? m : n); k++) {
                line |= (t == 0 ? at[i][k] : at[k][j]) != 0;
            }
            return (f == 0 || line) && (s == 0 || here);
        }

        int room() {
            int count = 0;
            for (int i = 0; i < n; i++) {
                for (int j = 0; j < m; j++) {
                    count += hasRoom(i, j) ? 1 : 0;
                }
            }
            return count;
        }
    }

    /** kind: c constant, a array, 0 - 1 - 2 the joins, n negation. */
    private static final class Node {
        final char kind;
        int k;
        Grid grid;
        int p = -1;
        int q = -1;
        Node x;
        Node y;

        Node(char kind) {
            this.kind = kind;
        }

        void lengths(int index, TreeSet<Integer> found) {
            if (kind == 'a' && p == index) {
                found.add(grid.n);
            }
            if (kind == 'a' && q == index) {
                found.add(grid.m);
            }
            if (x != null) {
                x.lengths(index, found);
            }
            if (y != null) {
                y.lengths(index, found);
            }
        }

        int value(int[] at) {
            switch (kind) {
                case 'c': return k;
                case 'a': return grid.at[p < 0 ? 0 : at[p]][q < 0 ? 0 : at[q]];
                case 'n': return 0 - x.value(at);
                case '0': return x.value(at) + y.value(at);
                case '1': return x.value(at) - y.value(at);
                default: return x.value(at) * y.value(at);
            }
        }
    }

    private static final class Model {
        final Grid[] registers = new Grid[6];
        final List<Node> stack = new ArrayList<>();
        int parts = 0;
        int arrays = 0;

        Model() {
            for (int r = 0; r < 6; r++) {
                registers[r] = new Grid(0, 1, 1, 0);
            }
        }

        static boolean noFormat(int rank, int f) {
            return f < 0 || f >= new int[] {1, 2, 8}[rank];
        }

        static boolean in(int low, int x, int high) {
            return low <= x && x <= high;
        }

        int make(int r, int n, int m, int format) {
            if (!in(0, r, 5) || !in(0, n, 6) || !in(0, m, 6) || (n == 0 && m > 0)) {
                return Check.BAD_ARG;
            }
            int rank = (n > 0 ? 1 : 0) + (m > 0 ? 1 : 0);
            if (noFormat(rank, format)) {
                return Check.BAD_ARG;
            }
            registers[r] = new Grid(rank, Math.max(n, 1), Math.max(m, 1), format);
            return rank;
        }

        int put(int r, int i, int j, int x, boolean change) {
            if (!in(0, r, 5)) {
                return Check.BAD_ARG;
            }
            if (!registers[r].has(i, j)) {
                return Check.NONE;
            }
            int was = registers[r].at[i][j];
            if (change) {
                registers[r].at[i][j] = x;
            }
            return was;
        }

        int format(int r, int f) {
            if (!in(0, r, 5) || noFormat(registers[r].rank, f)) {
                return Check.BAD_ARG;
            }
            registers[r].format = f;
            return registers[r].room();
        }

        int room(int r) {
            return in(0, r, 5) ? registers[r].room() : Check.BAD_ARG;
        }

        int filled(int r) {
            if (!in(0, r, 5)) {
                return Check.BAD_ARG;
            }
            int count = 0;
            for (int[] row : registers[r].at) {
                for (int x : row) {
                    count += x != 0 ? 1 : 0;
                }
            }
            return count;
        }

        int length(int r, int k) {
            return !in(0, r, 5) || !in(0, k, 1) ? Check.BAD_ARG : k == 0 ? registers[r].n : registers[r].m;
        }

        int pattern(int r, int i) {
            if (!in(0, r, 5)) {
                return Check.BAD_ARG;
            }
            if (!in(0, i, registers[r].n - 1)) {
                return Check.NONE;
            }
            int set = 0;
            for (int j = 0, power = 1; j < registers[r].m; j++, power *= 2) {
                set += registers[r].at[i][j] != 0 ? power : 0;
            }
            return set;
        }

        int turn(int r) {
            if (!in(0, r, 5)) {
                return Check.BAD_ARG;
            }
            Grid old = registers[r];
            if (old.rank != 2) {
                return Check.NONE;
            }
            Grid g = new Grid(2, old.m, old.n, 4 * (1 - old.format / 4) + old.format % 4);
            for (int i = 0; i < g.n; i++) {
                for (int j = 0; j < g.m; j++) {
                    g.at[i][j] = old.at[j][i];
                }
            }
            registers[r] = g;
            return g.n;
        }

        int same(int r, int s) {
            return in(0, r, 5) && in(0, s, 5) && registers[r].rank == registers[s].rank
                && java.util.Arrays.deepEquals(registers[r].at, registers[s].at) ? 1 : 0;
        }

        int digest(int r) {
            if (!in(0, r, 5)) {
                return Check.BAD_ARG;
            }
            long sum = 0;
            for (int i = 0; i < registers[r].n; i++) {
                for (int j = 0; j < registers[r].m; j++) {
                    sum += (7L * i + j + 1) * registers[r].at[i][j];
                }
            }
            return (int) sum;
        }

        int push(Node node) {
            stack.add(node);
            parts++;
            return stack.size();
        }

        int array(int r, int p, int q) {
            if (!in(0, r, 5) || !in(-1, p, 2) || !in(-1, q, 2)) {
                return Check.BAD_ARG;
            }
            int rank = registers[r].rank;
            if ((p == -1) != (rank == 0) || (q == -1) != (rank < 2) || (p == q && p != -1)) {
                return Check.BAD_ARG;
            }
            if (parts == 20 || arrays == 6 || stack.size() == 6) {
                return Check.FULL;
            }
            Node node = new Node('a');
            node.grid = registers[r].copy();
            node.p = p;
            node.q = q;
            arrays++;
            return push(node);
        }

        int constant(int k) {
            if (!in(-99, k, 99)) {
                return Check.BAD_ARG;
            }
            if (parts == 20 || stack.size() == 6) {
                return Check.FULL;
            }
            Node node = new Node('c');
            node.k = k;
            return push(node);
        }

        int negate() {
            if (parts == 20) {
                return Check.FULL;
            }
            if (stack.isEmpty()) {
                return Check.TOO_FEW;
            }
            Node node = new Node('n');
            node.x = stack.remove(stack.size() - 1);
            return push(node);
        }

        int join(int op) {
            if (!in(0, op, 2)) {
                return Check.BAD_ARG;
            }
            if (parts == 20) {
                return Check.FULL;
            }
            if (stack.size() < 2) {
                return Check.TOO_FEW;
            }
            Node node = new Node((char) ('0' + op));
            node.y = stack.remove(stack.size() - 1);
            node.x = stack.remove(stack.size() - 1);
            return push(node);
        }

        int scrap() {
            stack.clear();
            parts = 0;
            arrays = 0;
            return 0;
        }

        TreeSet<Integer> lengthsOnTop(int p) {
            TreeSet<Integer> found = new TreeSet<>();
            if (!stack.isEmpty()) {
                stack.get(stack.size() - 1).lengths(p, found);
            }
            return found;
        }

        int span(int p) {
            if (!in(0, p, 2)) {
                return Check.BAD_ARG;
            }
            TreeSet<Integer> found = lengthsOnTop(p);
            return found.isEmpty() ? Check.NONE : found.size() > 1 ? Check.MISMATCH : found.first();
        }

        int assign(int to, int p, int q, int format) {
            if (!in(0, to, 5) || !in(-1, p, 2) || !in(-1, q, 2) || (p == -1 && q != -1) || (p == q && p != -1)) {
                return Check.BAD_ARG;
            }
            int rank = (p != -1 ? 1 : 0) + (q != -1 ? 1 : 0);
            if (noFormat(rank, format)) {
                return Check.BAD_ARG;
            }
            if (stack.size() != 1) {
                return Check.TOO_FEW;
            }
            if ((p != -1 && lengthsOnTop(p).isEmpty()) || (q != -1 && lengthsOnTop(q).isEmpty())) {
                return Check.NONE;
            }
            int[] lengths = new int[3];
            for (int k = 0; k < 3; k++) {
                if (lengthsOnTop(k).size() > 1) {
                    return Check.MISMATCH;
                }
                lengths[k] = lengthsOnTop(k).isEmpty() ? 1 : lengthsOnTop(k).first();
            }
            Grid g = new Grid(rank, p == -1 ? 1 : lengths[p], q == -1 ? 1 : lengths[q], format);
            for (int all = 0; all < lengths[0] * lengths[1] * lengths[2]; all++) {
                int[] at = {all % lengths[0], all / lengths[0] % lengths[1], all / lengths[0] / lengths[1]};
                g.at[p == -1 ? 0 : at[p]][q == -1 ? 0 : at[q]] += stack.get(0).value(at);
            }
            registers[to] = g;
            scrap();
            return g.room();
        }
    }

    private long seed;

    /** The same numbers in every run of the test. */
    private int below(int bound) {
        seed = seed * 6364136223846793005L + 1442695040888963407L;
        return (int) ((seed >>> 33) % bound);
    }

    /** Mostly within low to high, now and then just or far outside. */
    private int near(int low, int high) {
        int kind = below(60);
        if (kind == 0) {
            return low - 1;
        }
        if (kind == 1) {
            return high + 1;
        }
        if (kind == 2) {
            return Check.FAR[below(Check.FAR.length)];
        }
        return low + below(high - low + 1);
    }

    private int number() {
        int kind = below(20);
        return kind < 6 ? 0 : kind < 18 ? below(19) - 9 : (below(1 << 16) << 16) + below(1 << 16);
    }

    private void step(SparseFormulas x, Model y, String run) {
        int r = near(0, 5);
        int a = near(0, 5);
        int b = near(0, 5);
        int p = near(-1, 2);
        int q = near(-1, 2);
        int f = below(3) == 0 ? near(0, 7) : below(2);
        int rank = Model.in(0, r, 5) ? y.registers[r].rank : 0;
        int n = below(3) == 0 ? near(0, 6) : 3;
        int m = below(3) == 0 ? near(0, 6) : 3 * below(2);
        int v = number();
        int which = below(40);
        String args = run + " call " + which + " r=" + r + " a=" + a + " b=" + b + " p=" + p + " q=" + q + " f=" + f
            + " n=" + n + " m=" + m + " v=" + v + ":";
        switch (which) {
            case 0, 1, 2 -> Check.due(args + "make", x.make(r, n, m, f), y.make(r, n, m, f));
            case 3 -> Check.due(args + "get", x.get(r, a, b), y.put(r, a, b, 0, false));
            case 4, 5, 6, 7, 8, 9, 10 -> {
                int i = below(8) == 0 ? a : a % 3;
                int j = below(8) == 0 ? b : rank == 2 ? b % 3 : 0;
                Check.due(args + "put", x.put(r, i, j, v), y.put(r, i, j, v, true));
            }
            case 11 -> Check.due(args + "format", x.format(r, f), y.format(r, f));
            case 12 -> Check.due(args + "room", x.room(r), y.room(r));
            case 13 -> Check.due(args + "filled", x.filled(r), y.filled(r));
            case 14 -> Check.due(args + "length", x.length(r, p), y.length(r, p));
            case 15 -> Check.due(args + "pattern", x.pattern(r, a), y.pattern(r, a));
            case 16, 17 -> Check.due(args + "turn", x.turn(r), y.turn(r));
            case 18 -> Check.due(args + "same", x.same(r, a) ? 1 : 0, y.same(r, a));
            case 19 -> Check.due(args + "digest", x.digest(r), y.digest(r));
            case 20, 21, 22, 23, 24 -> {
                int first = below(8) == 0 ? p : rank == 0 ? -1 : below(3);
                int second = below(8) == 0 ? q : rank < 2 ? -1 : (first + 1 + below(2)) % 3;
                Check.due(args + "array", x.array(r, first, second), y.array(r, first, second));
            }
            case 25 -> {
                int k = near(-99, 99);
                Check.due(args + "constant " + k, x.constant(k), y.constant(k));
            }
            case 26, 27 -> Check.due(args + "negate", x.negate(), y.negate());
            case 28, 29, 30, 31 -> {
                int op = near(0, 2);
                Check.due(args + "join " + op, x.join(op), y.join(op));
            }
            case 32 -> {
                if (below(4) == 0) {
                    x.scrap();
                    y.scrap();
                }
            }
            case 33, 34 -> Check.due(args + "span", x.span(p), y.span(p));
            default -> Check.due(args + "assign", x.assign(r, p, q, f), y.assign(r, p, q, f));
        }
    }

    private static void compareState(SparseFormulas x, Model y, String run) {
        for (int r = 0; r < 6; r++) {
            Check.due(run + " at the end: room", x.room(r), y.room(r));
            Check.due(run + " at the end: digest", x.digest(r), y.digest(r));
            Check.due(run + " at the end: rows", x.length(r, 0), y.length(r, 0));
            Check.due(run + " at the end: columns", x.length(r, 1), y.length(r, 1));
            for (int i = 0; i < 6; i++) {
                Check.due(run + " at the end: pattern", x.pattern(r, i), y.pattern(r, i));
            }
            Check.due(run + " at the end: turn", x.turn(r), y.turn(r));
        }
    }

    public static void main(String[] args) {
        ModelTest test = new ModelTest();
        for (int run = 0; run < RUNS; run++) {
            test.seed = run;
            SparseFormulas x = new SparseFormulas();
            Model y = new Model();
            for (int call = 0; call < CALLS; call++) {
                test.step(x, y, "run " + run + " step " + call);
            }
            compareState(x, y, "run " + run);
        }
        Check.end();
    }
}
