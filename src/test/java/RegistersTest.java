/** Promises 1 to 12: registers, their formats and what is told of them. */
public final class RegistersTest {
    private static final int[] NO_REGISTERS = {Integer.MIN_VALUE, -1, 6, 7, Integer.MAX_VALUE};

    public static void main(String[] args) {
        newObject();
        makeRanks();
        makeFormats();
        makeRefused();
        getPlaces();
        putNumbers();
        formatChanges();
        roomOfEachFormat();
        roomOfZeros();
        filledPlaces();
        lengths();
        patterns();
        turned();
        sameness();
        digests();
        wrongRegisters();
        Check.end();
    }

    /** 3 rows, 4 columns: 0 5 0 0 / 0 0 0 0 / 7 8 0 0. */
    private static SparseFormulas matrix(int format) {
        SparseFormulas x = new SparseFormulas();
        x.make(0, 3, 4, format);
        x.put(0, 0, 1, 5);
        x.put(0, 2, 0, 7);
        x.put(0, 2, 1, 8);
        return x;
    }

    private static void newObject() {
        SparseFormulas x = new SparseFormulas();
        for (int r = 0; r < 6; r++) {
            Check.due("new get", x.get(r, 0, 0), 0);
            Check.due("new rank 0: row 1", x.get(r, 1, 0), Check.NONE);
            Check.due("new rank 0: column 1", x.get(r, 0, 1), Check.NONE);
            Check.due("new room", x.room(r), 1);
            Check.due("new filled", x.filled(r), 0);
            Check.due("new turn", x.turn(r), Check.NONE);
            Check.due("new same", x.same(0, r), true);
            Check.due("new format 0", x.format(r, 0), 1);
            Check.due("new rank 0 as a formula needs no index", x.array(r, 0, -1), Check.BAD_ARG);
        }
        Check.due("new negate", x.negate(), Check.TOO_FEW);
        Check.due("new span", x.span(0), Check.NONE);
        Check.due("new assign", x.assign(0, -1, -1, 0), Check.TOO_FEW);
        Check.due("new constant", x.constant(1), 1);
    }

    private static void makeRanks() {
        for (int n = 0; n <= 6; n++) {
            for (int m = 0; m <= 6; m++) {
                SparseFormulas x = new SparseFormulas();
                x.put(3, 0, 0, 9);
                int rank = n == 0 ? 0 : m == 0 ? 1 : 2;
                boolean refused = n == 0 && m != 0;
                Check.due("make " + n + " " + m, x.make(3, n, m, 0), refused ? Check.BAD_ARG : rank);
                Check.due("number after make " + n + " " + m, x.get(3, 0, 0), refused ? 9 : 0);
                Check.due("rows after make " + n + " " + m, x.length(3, 0), refused || n == 0 ? 1 : n);
                Check.due("columns after make " + n + " " + m, x.length(3, 1), refused || m == 0 ? 1 : m);
            }
        }
        SparseFormulas x = matrix(0);
        x.put(1, 0, 0, 3);
        Check.due("make again", x.make(0, 6, 6, 0), 2);
        Check.due("make clears", x.filled(0), 0);
        Check.due("make leaves others", x.get(1, 0, 0), 3);
    }

    private static void makeFormats() {
        SparseFormulas x = new SparseFormulas();
        for (int f = -2; f <= 9; f++) {
            Check.due("make rank 0 format " + f, x.make(0, 0, 0, f), f == 0 ? 0 : Check.BAD_ARG);
            Check.due("make rank 1 format " + f, x.make(1, 2, 0, f), f == 0 || f == 1 ? 1 : Check.BAD_ARG);
            Check.due("make rank 2 format " + f, x.make(2, 2, 2, f), f >= 0 && f <= 7 ? 2 : Check.BAD_ARG);
        }
        for (int f : Check.FAR) {
            Check.due("make far format " + f, x.make(2, 2, 2, f), Check.BAD_ARG);
        }
        x.make(1, 4, 0, 0);
        Check.due("made in format 0", x.room(1), 4);
        x.make(1, 4, 0, 1);
        Check.due("made in format 1", x.room(1), 0);
    }

    private static void makeRefused() {
        SparseFormulas x = matrix(6);
        int[] wrong = {Integer.MIN_VALUE, -1, 7, Integer.MAX_VALUE};
        for (int w : wrong) {
            Check.due("make rows " + w, x.make(0, w, 2, 0), Check.BAD_ARG);
            Check.due("make columns " + w, x.make(0, 2, w, 0), Check.BAD_ARG);
            Check.due("make vector " + w, x.make(0, w, 0, 0), Check.BAD_ARG);
        }
        Check.due("make with a wrong format", x.make(0, 2, 2, 8), Check.BAD_ARG);
        Check.due("refused make keeps rows", x.length(0, 0), 3);
        Check.due("refused make keeps columns", x.length(0, 1), 4);
        Check.due("refused make keeps format", x.room(0), 6);
        Check.due("refused make keeps numbers", x.digest(0), 5 * 2 + 7 * 15 + 8 * 16);
    }

    private static void getPlaces() {
        SparseFormulas x = matrix(3);
        x.make(1, 3, 0, 1);
        x.put(1, 2, 0, -4);
        x.put(2, 0, 0, 6);
        int[] numbers = {0, 5, 0, 0, 0, 0, 0, 0, 7, 8, 0, 0};
        for (int i = -1; i <= 6; i++) {
            for (int j = -1; j <= 6; j++) {
                boolean inMatrix = i >= 0 && i < 3 && j >= 0 && j < 4;
                boolean inVector = i >= 0 && i < 3 && j == 0;
                boolean inNumber = i == 0 && j == 0;
                String at = " " + i + " " + j;
                Check.due("get matrix" + at, x.get(0, i, j), inMatrix ? numbers[4 * i + j] : Check.NONE);
                Check.due("get vector" + at, x.get(1, i, j), !inVector ? Check.NONE : i == 2 ? -4 : 0);
                Check.due("get number" + at, x.get(2, i, j), inNumber ? 6 : Check.NONE);
            }
        }
        for (int far : Check.FAR) {
            Check.due("get far row", x.get(0, far, 0), Check.NONE);
            Check.due("get far column", x.get(0, 0, far), Check.NONE);
        }
    }

    private static void putNumbers() {
        SparseFormulas x = matrix(3);
        Check.due("put over 0", x.put(0, 1, 3, 11), 0);
        Check.due("put over 11", x.put(0, 1, 3, Integer.MIN_VALUE), 11);
        Check.due("put over the least int", x.put(0, 1, 3, Check.NONE), Integer.MIN_VALUE);
        Check.due("put over a number that is a code too", x.put(0, 1, 3, 0), Check.NONE);
        Check.due("put 0", x.get(0, 1, 3), 0);
        int before = x.digest(0);
        int[][] places = {{3, 0}, {0, 4}, {-1, 0}, {0, -1}, {5, 5}, {Integer.MAX_VALUE, 0}, {0, Integer.MIN_VALUE}};
        for (int[] place : places) {
            Check.due("put nowhere", x.put(0, place[0], place[1], 1), Check.NONE);
        }
        Check.due("put nowhere changes nothing", x.digest(0), before);
        x.make(1, 3, 0, 0);
        Check.due("put beside a vector", x.put(1, 0, 1, 1), Check.NONE);
        Check.due("put below a vector", x.put(1, 3, 0, 1), Check.NONE);
        Check.due("put into a vector", x.put(1, 2, 0, 1), 0);
        Check.due("put beside a number", x.put(2, 0, 1, 1), Check.NONE);
        Check.due("put below a number", x.put(2, 1, 0, 1), Check.NONE);
        Check.due("nothing but the one put", x.filled(1) + x.filled(2), 1);
        x.make(2, 6, 6, 0);
        Check.due("no number waits outside", x.filled(2), 0);
    }

    private static void formatChanges() {
        SparseFormulas x = matrix(0);
        int[] room = {12, 3, 8, 3, 12, 3, 6, 3};
        for (int f = 0; f < 8; f++) {
            Check.due("format " + f, x.format(0, f), room[f]);
            Check.due("room after format " + f, x.room(0), room[f]);
        }
        x.format(0, 6);
        for (int f : new int[] {-1, 8, 9, Integer.MIN_VALUE, Integer.MAX_VALUE}) {
            Check.due("format " + f, x.format(0, f), Check.BAD_ARG);
        }
        Check.due("refused format changes nothing", x.room(0), 6);
        Check.due("format keeps numbers", x.digest(0), 5 * 2 + 7 * 15 + 8 * 16);
        x.make(1, 5, 0, 0);
        x.put(1, 3, 0, 1);
        Check.due("vector format 1", x.format(1, 1), 1);
        Check.due("vector format 0", x.format(1, 0), 5);
        Check.due("vector format 2", x.format(1, 2), Check.BAD_ARG);
        Check.due("vector format -1", x.format(1, -1), Check.BAD_ARG);
        Check.due("vector keeps format 0", x.room(1), 5);
        Check.due("number format 0", x.format(2, 0), 1);
        Check.due("number format 1", x.format(2, 1), Check.BAD_ARG);
        Check.due("number format -1", x.format(2, -1), Check.BAD_ARG);
    }

    private static void roomOfEachFormat() {
        int[] room = {12, 3, 8, 3, 12, 3, 6, 3};
        int[] roomWithOneMore = {12, 4, 12, 4, 12, 4, 9, 4};
        for (int f = 0; f < 8; f++) {
            SparseFormulas x = matrix(f);
            Check.due("room in format " + f, x.room(0), room[f]);
            x.put(0, 1, 3, -1);
            Check.due("room after put in format " + f, x.room(0), roomWithOneMore[f]);
            x.put(0, 1, 3, 0);
            Check.due("room after put of 0 in format " + f, x.room(0), room[f]);
        }
        SparseFormulas x = new SparseFormulas();
        x.put(0, 0, 0, 4);
        Check.due("room of a number", x.room(0), 1);
        x.make(0, 6, 0, 1);
        x.put(0, 5, 0, 2);
        x.put(0, 1, 0, 2);
        Check.due("room of a vector", x.room(0), 2);
    }

    private static void roomOfZeros() {
        SparseFormulas x = new SparseFormulas();
        int[] room = {30, 0, 0, 0, 30, 0, 0, 0};
        for (int f = 0; f < 8; f++) {
            x.make(0, 5, 6, f);
            Check.due("room of 0s in format " + f, x.room(0), room[f]);
        }
        Check.due("room of the number 0", x.room(1), 1);
    }

    private static void filledPlaces() {
        for (int f = 0; f < 8; f++) {
            Check.due("filled in format " + f, matrix(f).filled(0), 3);
        }
        SparseFormulas x = new SparseFormulas();
        Check.due("filled of 0", x.filled(0), 0);
        x.put(0, 0, 0, -3);
        Check.due("filled of -3", x.filled(0), 1);
        x.make(0, 6, 6, 1);
        for (int i = 0; i < 6; i++) {
            for (int j = 0; j < 6; j++) {
                x.put(0, i, j, Integer.MIN_VALUE);
            }
        }
        Check.due("filled of all", x.filled(0), 36);
        x.put(0, 3, 3, 0);
        Check.due("filled of all but one", x.filled(0), 35);
        x.make(0, 4, 0, 0);
        x.put(0, 3, 0, 1);
        Check.due("filled of a vector", x.filled(0), 1);
    }

    private static void lengths() {
        SparseFormulas x = matrix(0);
        x.make(1, 5, 0, 0);
        Check.due("rows", x.length(0, 0), 3);
        Check.due("columns", x.length(0, 1), 4);
        Check.due("rows of a vector", x.length(1, 0), 5);
        Check.due("columns of a vector", x.length(1, 1), 1);
        Check.due("rows of a number", x.length(2, 0), 1);
        Check.due("columns of a number", x.length(2, 1), 1);
        for (int r = 0; r < 3; r++) {
            for (int k : new int[] {Integer.MIN_VALUE, -1, 2, 3, Integer.MAX_VALUE}) {
                Check.due("length " + k, x.length(r, k), Check.BAD_ARG);
            }
        }
    }

    private static void patterns() {
        SparseFormulas x = matrix(7);
        Check.due("pattern of row 0", x.pattern(0, 0), 2);
        Check.due("pattern of row 1", x.pattern(0, 1), 0);
        Check.due("pattern of row 2", x.pattern(0, 2), 3);
        Check.due("pattern of row 3", x.pattern(0, 3), Check.NONE);
        Check.due("pattern of row -1", x.pattern(0, -1), Check.NONE);
        x.make(1, 2, 6, 0);
        for (int j = 0; j < 6; j++) {
            x.put(1, 1, j, -1);
            Check.due("pattern up to " + j, x.pattern(1, 1), (2 << j) - 1);
        }
        Check.due("pattern of the row before", x.pattern(1, 0), 0);
        x.make(2, 3, 0, 1);
        x.put(2, 1, 0, 4);
        Check.due("pattern of a vector's 0", x.pattern(2, 0), 0);
        Check.due("pattern of a vector's 4", x.pattern(2, 1), 1);
        Check.due("pattern past a vector", x.pattern(2, 3), Check.NONE);
        Check.due("pattern of the number 0", x.pattern(3, 0), 0);
        x.put(3, 0, 0, 8);
        Check.due("pattern of the number 8", x.pattern(3, 0), 1);
        Check.due("pattern past a number", x.pattern(3, 1), Check.NONE);
        for (int far : Check.FAR) {
            Check.due("pattern of a far row", x.pattern(1, far), Check.NONE);
        }
    }

    private static void turned() {
        int[] roomAfterPut = {12, 4, 12, 4, 12, 4, 9, 4};
        for (int f = 0; f < 8; f++) {
            SparseFormulas x = matrix(f);
            Check.due("turn in format " + f, x.turn(0), 4);
            Check.due("turned rows", x.length(0, 0), 4);
            Check.due("turned columns", x.length(0, 1), 3);
            Check.due("turned numbers", x.digest(0), 5 * 8 + 7 * 3 + 8 * 10);
            Check.due("turned place", x.get(0, 1, 2), 8);
            Check.due("turned away", x.get(0, 2, 3), Check.NONE);
            x.put(0, 3, 1, -1);
            Check.due("turned format " + f, x.room(0), roomAfterPut[f]);
            Check.due("turned back", x.turn(0), 3);
            Check.due("turned back place", x.get(0, 1, 3), -1);
            Check.due("turned back room", x.room(0), roomAfterPut[f]);
        }
        SparseFormulas x = new SparseFormulas();
        x.make(1, 3, 0, 1);
        x.put(1, 2, 0, 5);
        Check.due("turn a vector", x.turn(1), Check.NONE);
        Check.due("the vector stays", x.digest(1), 75);
        Check.due("turn a number", x.turn(2), Check.NONE);
        x.make(1, 1, 6, 2);
        x.put(1, 0, 4, 5);
        Check.due("turn one row", x.turn(1), 6);
        Check.due("one row turned", x.get(1, 4, 0), 5);
        Check.due("its line is a column", x.room(1), 6);
        x.format(1, 2);
        Check.due("now its lines are rows", x.room(1), 1);
    }

    private static void sameness() {
        SparseFormulas x = matrix(0);
        x.make(1, 3, 4, 7);
        x.put(1, 0, 1, 5);
        x.put(1, 2, 0, 7);
        Check.due("one number differs", x.same(0, 1), false);
        x.put(1, 2, 1, 8);
        Check.due("the same in another format", x.same(0, 1), true);
        Check.due("the same, the other way round", x.same(1, 0), true);
        Check.due("the same as itself", x.same(0, 0), true);
        x.make(2, 1, 0, 0);
        x.make(3, 1, 1, 0);
        Check.due("rank 0 and 1", x.same(2, 4), false);
        Check.due("rank 0 and 2", x.same(3, 4), false);
        Check.due("rank 1 and 2", x.same(2, 3), false);
        Check.due("rank 0 and 0", x.same(4, 5), true);
        x.put(4, 0, 0, 1);
        Check.due("0 and 1", x.same(4, 5), false);
        x.make(2, 3, 2, 0);
        x.make(3, 2, 3, 0);
        Check.due("0s of other lengths", x.same(2, 3), false);
        x.turn(3);
        Check.due("0s of the same lengths", x.same(2, 3), true);
        x.make(3, 3, 3, 0);
        Check.due("0s of other columns", x.same(2, 3), false);
        x.make(3, 4, 2, 0);
        Check.due("0s of other rows", x.same(2, 3), false);
        x.make(2, 4, 0, 0);
        x.make(3, 5, 0, 0);
        Check.due("vectors of other lengths", x.same(2, 3), false);
    }

    private static void digests() {
        SparseFormulas x = matrix(0);
        Check.due("digest of a matrix", x.digest(0), 5 * 2 + 7 * 15 + 8 * 16);
        x.make(1, 6, 6, 0);
        for (int i = 0; i < 6; i++) {
            for (int j = 0; j < 6; j++) {
                x.put(1, i, j, 1);
                Check.due("digest of one 1", x.digest(1), 7 * i + j + 1);
                x.put(1, i, j, 0);
            }
        }
        x.make(2, 3, 0, 1);
        x.put(2, 0, 0, 2);
        x.put(2, 2, 0, -3);
        Check.due("digest of a vector", x.digest(2), 2 - 45);
        x.put(3, 0, 0, -9);
        Check.due("digest of a number", x.digest(3), -9);
        Check.due("digest of 0", x.digest(4), 0);
        x.put(1, 5, 5, Integer.MAX_VALUE);
        x.put(1, 5, 4, Integer.MAX_VALUE);
        Check.due("digest wraps", x.digest(1), (int) (81L * Integer.MAX_VALUE));
    }

    private static void wrongRegisters() {
        SparseFormulas x = matrix(0);
        for (int r : NO_REGISTERS) {
            Check.due("make of no register", x.make(r, 2, 2, 0), Check.BAD_ARG);
            Check.due("get of no register", x.get(r, 0, 0), Check.BAD_ARG);
            Check.due("get of no register and no place", x.get(r, 9, 9), Check.BAD_ARG);
            Check.due("put of no register", x.put(r, 0, 0, 1), Check.BAD_ARG);
            Check.due("put of no register and no place", x.put(r, -1, 9, 1), Check.BAD_ARG);
            Check.due("format of no register", x.format(r, 0), Check.BAD_ARG);
            Check.due("room of no register", x.room(r), Check.BAD_ARG);
            Check.due("filled of no register", x.filled(r), Check.BAD_ARG);
            Check.due("length of no register", x.length(r, 0), Check.BAD_ARG);
            Check.due("pattern of no register", x.pattern(r, 0), Check.BAD_ARG);
            Check.due("pattern of no register and no row", x.pattern(r, 9), Check.BAD_ARG);
            Check.due("turn of no register", x.turn(r), Check.BAD_ARG);
            Check.due("same, first no register", x.same(r, 0), false);
            Check.due("same, second no register", x.same(0, r), false);
            Check.due("same, both no register", x.same(r, r), false);
            Check.due("digest of no register", x.digest(r), Check.BAD_ARG);
        }
        Check.due("nothing changed", x.digest(0), 5 * 2 + 7 * 15 + 8 * 16);
        for (int r = 1; r < 6; r++) {
            Check.due("nothing changed in the others", x.filled(r) + x.length(r, 0), 1);
        }
    }
}
