/** The boundary cases that the section "Terms" names, a method for each sentence. */
public final class TermsBoundaryTest {
    private static final int[] EDGES = {
        Integer.MIN_VALUE, Integer.MIN_VALUE + 1, -100, -99, -7, -2, -1, 0, 1, 2, 3, 5, 6, 7, 8, 36, 99, 100,
        Integer.MAX_VALUE - 1, Integer.MAX_VALUE
    };

    public static void main(String[] args) {
        sixRegisters();
        ranksAndLengths();
        numbersAreInts();
        arithmeticWraps();
        placesFromZero();
        roomOfANumber();
        roomOfAVector();
        roomOfAnEmptyMatrix();
        roomOfAFullMatrix();
        roomOfOneNumber();
        roomOfLinesWithZeros();
        roomOfOneRowAndOneColumn();
        roomFollowsTheNumbers();
        indicesZeroToTwo();
        firstIndexForRowsSecondForColumns();
        lengthsOfAnIndex();
        severalLengths();
        numbersOfAnIndex();
        noRegisterBeforeAnythingElse();
        noRegisterInAFullObject();
        neverThrows();
        refusedChangesNothing();
        answersOfDifferentObjects();
        callNumber512();
        Check.end();
    }

    private static void fill(SparseFormulas x, int r, int n, int m, int number) {
        for (int i = 0; i < n; i++) {
            for (int j = 0; j < m; j++) {
                x.put(r, i, j, number);
            }
        }
    }

    private static void dueRooms(String what, int n, int m, int[] filled, int[] rooms) {
        for (int f = 0; f < 8; f++) {
            SparseFormulas x = new SparseFormulas();
            x.make(0, n, m, f);
            for (int place : filled) {
                x.put(0, place / 10, place % 10, -1);
            }
            Check.due(what + ", format " + f, x.room(0), rooms[f]);
        }
    }

    // "There are six REGISTERS, 0 to 5, with an ARRAY each"
    private static void sixRegisters() {
        SparseFormulas x = new SparseFormulas();
        for (int r = 0; r < 6; r++) {
            Check.due("make register " + r, x.make(r, 6, 6, 0), 2);
            fill(x, r, 6, 6, r + 1);
        }
        for (int r = 0; r < 6; r++) {
            Check.due("first number of register " + r, x.get(r, 0, 0), r + 1);
            Check.due("last number of register " + r, x.get(r, 5, 5), r + 1);
            Check.due("digest of register " + r, x.digest(r), 36 * 21 * (r + 1));
        }
        Check.due("register -1", x.get(-1, 5, 5), Check.BAD_ARG);
        Check.due("register 6", x.get(6, 0, 0), Check.BAD_ARG);
    }

    // "of RANK 0 (one number), 1 (a vector, its LENGTH from 1 to 6) or 2 (a matrix, n rows and m columns, both
    // from 1 to 6)"
    private static void ranksAndLengths() {
        SparseFormulas x = new SparseFormulas();
        int[][] lengths = {{1, 1}, {1, 6}, {6, 1}, {6, 6}};
        for (int[] l : lengths) {
            Check.due("matrix " + l[0] + " " + l[1], x.make(0, l[0], l[1], 0), 2);
            Check.due("places of it", x.room(0), l[0] * l[1]);
            Check.due("last place of it", x.put(0, l[0] - 1, l[1] - 1, 5), 0);
            Check.due("last number of it", x.get(0, l[0] - 1, l[1] - 1), 5);
            Check.due("past its rows", x.get(0, l[0], 0), Check.NONE);
            Check.due("past its columns", x.get(0, 0, l[1]), Check.NONE);
        }
        for (int n = 1; n <= 6; n += 5) {
            Check.due("vector " + n, x.make(0, n, 0, 0), 1);
            Check.due("places of vector " + n, x.room(0), n);
            Check.due("past vector " + n, x.get(0, n, 0), Check.NONE);
        }
        Check.due("vector 7", x.make(0, 7, 0, 0), Check.BAD_ARG);
        Check.due("matrix 7 1", x.make(0, 7, 1, 0), Check.BAD_ARG);
        Check.due("matrix 1 7", x.make(0, 1, 7, 0), Check.BAD_ARG);
        Check.due("one number", x.make(0, 0, 0, 0), 0);
        Check.due("places of one number", x.room(0), 1);
    }

    // "Numbers are Java ints"
    private static void numbersAreInts() {
        SparseFormulas x = new SparseFormulas();
        x.make(1, 1, 1, 7);
        int was = 0;
        for (int number : EDGES) {
            Check.due("put " + number, x.put(1, 0, 0, number), was);
            Check.due("get " + number, x.get(1, 0, 0), number);
            Check.due("filled of " + number, x.filled(1), number == 0 ? 0 : 1);
            x.array(1, 2, 1);
            Check.due("assign " + number, x.assign(0, -1, -1, 0), 1);
            Check.due("assigned " + number, x.get(0, 0, 0), number);
            was = number;
        }
    }

    // "arithmetic wraps"
    private static void arithmeticWraps() {
        int high = Integer.MAX_VALUE;
        int low = Integer.MIN_VALUE;
        dueJoined("add over the top", high, 0, 1, low);
        dueJoined("add under the bottom", low, 0, -1, high);
        dueJoined("add the lowest twice", low, 0, low, 0);
        dueJoined("subtract over the top", high, 1, -1, low);
        dueJoined("subtract under the bottom", low, 1, 1, high);
        dueJoined("0 less the lowest", 0, 1, low, low);
        dueJoined("multiply to 2 to the power 32", 1 << 16, 2, 1 << 16, 0);
        dueJoined("multiply to 2 to the power 31", 1 << 16, 2, 1 << 15, low);
        dueJoined("multiply the lowest by -1", low, 2, -1, low);
        dueJoined("multiply the highest by itself", high, 2, high, 1);
        SparseFormulas x = new SparseFormulas();
        x.put(0, 0, 0, low);
        x.array(0, -1, -1);
        x.negate();
        x.assign(1, -1, -1, 0);
        Check.due("negate the lowest", x.get(1, 0, 0), low);
        x.make(2, 2, 0, 0);
        x.put(2, 0, 0, high);
        x.put(2, 1, 0, high);
        x.array(2, 0, -1);
        x.assign(1, -1, -1, 0);
        Check.due("a sum over the top", x.get(1, 0, 0), -2);
        Check.due("a digest over the top", x.digest(2), (int) (9L * high));
    }

    private static void dueJoined(String what, int left, int op, int right, int due) {
        SparseFormulas x = new SparseFormulas();
        x.put(0, 0, 0, left);
        x.put(1, 0, 0, right);
        x.array(0, -1, -1);
        x.array(1, -1, -1);
        x.join(op);
        x.assign(2, -1, -1, 0);
        Check.due(what, x.get(2, 0, 0), due);
    }

    // "Places are (i, j), from 0 on; for a vector j is 0, for rank 0 both are."
    private static void placesFromZero() {
        int[][] shapes = {{0, 0}, {1, 0}, {6, 0}, {1, 1}, {1, 6}, {6, 1}, {2, 5}, {6, 6}};
        for (int[] shape : shapes) {
            SparseFormulas x = new SparseFormulas();
            x.make(0, shape[0], shape[1], 0);
            int rows = shape[0] == 0 ? 1 : shape[0];
            int columns = shape[1] == 0 ? 1 : shape[1];
            for (int i : EDGES) {
                for (int j : EDGES) {
                    boolean place = i >= 0 && i < rows && j >= 0 && j < columns;
                    Check.due(shape[0] + " " + shape[1] + " at " + i + " " + j, x.get(0, i, j), place ? 0 : Check.NONE);
                }
            }
        }
    }

    // "rank 0: 0 (it has)"
    private static void roomOfANumber() {
        SparseFormulas x = new SparseFormulas();
        Check.due("room of the number 0", x.room(0), 1);
        x.put(0, 0, 0, 1);
        Check.due("room of the number 1", x.room(0), 1);
        Check.due("rank 0 in format 1", x.format(0, 1), Check.BAD_ARG);
        Check.due("rank 0 in format -1", x.format(0, -1), Check.BAD_ARG);
    }

    // "Rank 1: 0 all places; 1 those whose number is not 0."
    private static void roomOfAVector() {
        for (int n = 1; n <= 6; n++) {
            SparseFormulas x = new SparseFormulas();
            x.make(0, n, 0, 0);
            x.make(1, n, 0, 1);
            Check.due("empty vector, format 0", x.room(0), n);
            Check.due("empty vector, format 1", x.room(1), 0);
            for (int i = 0; i < n; i++) {
                x.put(0, i, 0, -1);
                x.put(1, i, 0, -1);
                Check.due("vector with " + (i + 1) + ", format 0", x.room(0), n);
                Check.due("vector with " + (i + 1) + ", format 1", x.room(1), i + 1);
            }
        }
        SparseFormulas x = new SparseFormulas();
        x.make(0, 6, 0, 0);
        Check.due("rank 1 in format 2", x.format(0, 2), Check.BAD_ARG);
        Check.due("rank 1 in format -1", x.format(0, -1), Check.BAD_ARG);
    }

    // "for f = 1 only lines with a number that is not 0 have room", and for f = 0 all lines
    private static void roomOfAnEmptyMatrix() {
        dueRooms("0s of 2 rows, 5 columns", 2, 5, new int[] {}, new int[] {10, 0, 0, 0, 10, 0, 0, 0});
        dueRooms("0s of 6 rows, 6 columns", 6, 6, new int[] {}, new int[] {36, 0, 0, 0, 36, 0, 0, 0});
        dueRooms("one 0", 1, 1, new int[] {}, new int[] {1, 0, 0, 0, 1, 0, 0, 0});
    }

    // "in a line that has, for s = 0 all places do, for s = 1 those whose number is not 0": all of them
    private static void roomOfAFullMatrix() {
        dueRooms("full, 2 rows, 3 columns", 2, 3, new int[] {0, 1, 2, 10, 11, 12}, new int[] {6, 6, 6, 6, 6, 6, 6, 6});
        for (int f = 0; f < 8; f++) {
            SparseFormulas x = new SparseFormulas();
            x.make(5, 6, 6, f);
            fill(x, 5, 6, 6, Integer.MIN_VALUE);
            Check.due("full, 6 rows, 6 columns, format " + f, x.room(5), 36);
        }
    }

    // "LINES are the rows for t = 0, the columns for t = 1"
    private static void roomOfOneNumber() {
        for (int i = 0; i < 4; i += 3) {
            for (int j = 0; j < 6; j += 5) {
                int[] rooms = {24, 1, 6, 1, 24, 1, 4, 1};
                dueRooms("one number at " + i + " " + j, 4, 6, new int[] {10 * i + j}, rooms);
            }
        }
    }

    // "only lines with a number that is not 0 have room", the other lines beside them do not
    private static void roomOfLinesWithZeros() {
        dueRooms("two in one row", 3, 4, new int[] {11, 13}, new int[] {12, 2, 4, 2, 12, 2, 6, 2});
        dueRooms("two in one column", 3, 4, new int[] {2, 22}, new int[] {12, 2, 8, 2, 12, 2, 3, 2});
        dueRooms("a number in each row", 3, 4, new int[] {0, 10, 21}, new int[] {12, 3, 12, 3, 12, 3, 6, 3});
        dueRooms("a number in each column", 3, 4, new int[] {0, 1, 2, 13}, new int[] {12, 4, 8, 4, 12, 4, 12, 4});
    }

    // A matrix may have a single line, or lines of a single place.
    private static void roomOfOneRowAndOneColumn() {
        dueRooms("one row", 1, 6, new int[] {5}, new int[] {6, 1, 6, 1, 6, 1, 1, 1});
        dueRooms("one column", 6, 1, new int[] {50}, new int[] {6, 1, 1, 1, 6, 1, 6, 1});
        dueRooms("one place", 1, 1, new int[] {0}, new int[] {1, 1, 1, 1, 1, 1, 1, 1});
    }

    // Room is for numbers that are not 0: a number that becomes 0 gives its room back.
    private static void roomFollowsTheNumbers() {
        int[] empty = {12, 0, 0, 0, 12, 0, 0, 0};
        for (int f = 0; f < 8; f++) {
            SparseFormulas x = new SparseFormulas();
            x.make(0, 3, 4, f);
            fill(x, 0, 3, 4, 9);
            Check.due("filled, format " + f, x.room(0), 12);
            fill(x, 0, 3, 4, 0);
            Check.due("emptied, format " + f, x.room(0), empty[f]);
        }
    }

    // "an array with an INDEX, 0 to 2, for each of its ranks, different ones"
    private static void indicesZeroToTwo() {
        SparseFormulas x = new SparseFormulas();
        x.make(0, 2, 0, 0);
        x.make(1, 2, 3, 0);
        for (int p : EDGES) {
            boolean index = p == 0 || p == 1 || p == 2;
            x.scrap();
            Check.due("vector with index " + p, x.array(0, p, -1), index ? 1 : Check.BAD_ARG);
            x.scrap();
            Check.due("matrix with indices " + p + " " + p, x.array(1, p, p), Check.BAD_ARG);
            Check.due("matrix with indices 0 " + p, x.array(1, 0, p), index && p != 0 ? 1 : Check.BAD_ARG);
            x.scrap();
            Check.due("matrix with indices " + p + " 2", x.array(1, p, 2), index && p != 2 ? 1 : Check.BAD_ARG);
        }
    }

    // "its first index stands for i, the second for j"
    private static void firstIndexForRowsSecondForColumns() {
        for (int p = 0; p < 3; p++) {
            for (int q = 0; q < 3; q++) {
                if (p == q) {
                    continue;
                }
                SparseFormulas x = new SparseFormulas();
                x.make(0, 6, 1, 0);
                x.put(0, 5, 0, 4);
                x.array(0, p, q);
                Check.due("rows as index " + p, x.span(p), 6);
                Check.due("columns as index " + q, x.span(q), 1);
                Check.due("the third index", x.span(3 - p - q), Check.NONE);
                Check.due("assign as it is", x.assign(1, p, q, 0), 6);
                Check.due("the same", x.same(0, 1), true);
                x.array(0, p, q);
                Check.due("assign turned", x.assign(1, q, p, 0), 6);
                Check.due("turned", x.get(1, 0, 5), 4);
            }
        }
    }

    // "An index that stands in a formula has a length: that of the array there"
    private static void lengthsOfAnIndex() {
        for (int n = 1; n <= 6; n++) {
            SparseFormulas x = new SparseFormulas();
            x.make(0, n, 0, 1);
            x.make(1, 7 - n, n, 3);
            x.array(0, 2, -1);
            Check.due("length of a vector's index", x.span(2), n);
            x.array(1, 0, 1);
            Check.due("length of a row's index", x.span(0), 7 - n);
            Check.due("length of a column's index", x.span(1), n);
        }
    }

    // "if it stands at several, all must have the same length"
    private static void severalLengths() {
        for (int n = 1; n <= 6; n++) {
            for (int m = 1; m <= 6; m++) {
                for (int op = 0; op < 3; op++) {
                    SparseFormulas x = new SparseFormulas();
                    x.make(0, n, 0, 0);
                    x.make(1, 3, m, 0);
                    x.array(0, 2, -1);
                    x.array(1, 1, 2);
                    x.join(op);
                    String at = "lengths " + n + " and " + m + ", join " + op;
                    Check.due(at + ": span", x.span(2), n == m ? n : Check.MISMATCH);
                    Check.due(at + ": assign", x.assign(3, 2, -1, 0), n == m ? n : Check.MISMATCH);
                }
            }
        }
    }

    // "for numbers of its indices (each from 0 to its length - 1)": the first and the last count, none beyond
    private static void numbersOfAnIndex() {
        SparseFormulas x = new SparseFormulas();
        for (int n = 1; n <= 6; n++) {
            x.make(0, n, 0, 0);
            x.make(1, n, n, 0);
            for (int i = 0; i < n; i++) {
                x.put(0, i, 0, 1 << i);
                x.put(1, i, n - 1 - i, 1 << i);
            }
            x.array(0, 1, -1);
            x.assign(2, -1, -1, 0);
            Check.due("each place of a vector of " + n, x.get(2, 0, 0), (1 << n) - 1);
            x.array(1, 2, 0);
            x.assign(2, -1, -1, 0);
            Check.due("each place of a matrix of " + n, x.get(2, 0, 0), (1 << n) - 1);
            x.array(1, 2, 0);
            x.constant(1);
            x.join(0);
            x.assign(2, -1, -1, 0);
            Check.due("as many values as places: " + n, x.get(2, 0, 0), (1 << n) - 1 + n * n);
        }
    }

    // "one that is not 0 to 5 answers BAD_ARG (or false) before anything else": beside every other wrong argument
    private static void noRegisterBeforeAnythingElse() {
        for (int r : EDGES) {
            if (r >= 0 && r <= 5) {
                continue;
            }
            String no = " of register " + r;
            Refusal.due("make" + no, Refusal::busy, x -> x.make(r, 2, 2, 0), Check.BAD_ARG);
            Refusal.due("get" + no, Refusal::busy, x -> x.get(r, 0, 0), Check.BAD_ARG);
            Refusal.due("get nowhere" + no, Refusal::busy, x -> x.get(r, -1, 7), Check.BAD_ARG);
            Refusal.due("put" + no, Refusal::busy, x -> x.put(r, 0, 0, 1), Check.BAD_ARG);
            Refusal.due("put nowhere" + no, Refusal::busy, x -> x.put(r, 7, -1, 1), Check.BAD_ARG);
            Refusal.due("format" + no, Refusal::busy, x -> x.format(r, 0), Check.BAD_ARG);
            Refusal.due("room" + no, Refusal::busy, x -> x.room(r), Check.BAD_ARG);
            Refusal.due("filled" + no, Refusal::busy, x -> x.filled(r), Check.BAD_ARG);
            Refusal.due("length" + no, Refusal::busy, x -> x.length(r, 0), Check.BAD_ARG);
            Refusal.due("pattern" + no, Refusal::busy, x -> x.pattern(r, 0), Check.BAD_ARG);
            Refusal.due("pattern of no row" + no, Refusal::busy, x -> x.pattern(r, 6), Check.BAD_ARG);
            Refusal.due("turn" + no, Refusal::busy, x -> x.turn(r), Check.BAD_ARG);
            Refusal.due("same, first" + no, Refusal::busy, x -> x.same(r, 0) ? 1 : 0, 0);
            Refusal.due("same, second" + no, Refusal::busy, x -> x.same(0, r) ? 1 : 0, 0);
            Refusal.due("same, both" + no, Refusal::busy, x -> x.same(r, r) ? 1 : 0, 0);
            Refusal.due("digest" + no, Refusal::busy, x -> x.digest(r), Check.BAD_ARG);
            Refusal.due("array" + no, Refusal::busy, x -> x.array(r, -1, -1), Check.BAD_ARG);
            Refusal.due("array as a vector" + no, Refusal::busy, x -> x.array(r, 0, -1), Check.BAD_ARG);
            Refusal.due("array as a matrix" + no, Refusal::busy, x -> x.array(r, 0, 1), Check.BAD_ARG);
            Refusal.due("assign" + no, Refusal::busyWithOne, x -> x.assign(r, 0, 2, 0), Check.BAD_ARG);
        }
    }

    // "before anything else": before FULL, TOO_FEW, NONE and MISMATCH too
    private static void noRegisterInAFullObject() {
        for (int r = -1; r <= 6; r += 7) {
            int no = r;
            Refusal.due("array, holds six", TermsBoundaryTest::sixConstants, x -> x.array(no, -1, -1), Check.BAD_ARG);
            Refusal.due("assign of none", Refusal::busyWithNone, x -> x.assign(no, -1, -1, 0), Check.BAD_ARG);
            Refusal.due("assign of two", Refusal::busy, x -> x.assign(no, -1, -1, 0), Check.BAD_ARG);
            Refusal.due("assign, no index", TermsBoundaryTest::mismatch, x -> x.assign(no, 0, -1, 0), Check.BAD_ARG);
            Refusal.due("assign, several", TermsBoundaryTest::mismatch, x -> x.assign(no, 1, -1, 0), Check.BAD_ARG);
        }
    }

    private static void sixConstants(SparseFormulas x) {
        Refusal.busyWithNone(x);
        for (int n = 1; n <= 6; n++) {
            x.constant(n);
        }
    }

    private static void mismatch(SparseFormulas x) {
        Refusal.busyWithNone(x);
        x.array(1, 1, -1);
        x.array(4, 1, -1);
        x.join(2);
    }

    // "No call ever throws."
    private static void neverThrows() {
        Refusal.Calls[] states = {
            x -> { }, Refusal::busy, Refusal::busyWithOne, TermsBoundaryTest::sixConstants, TermsBoundaryTest::mismatch
        };
        for (int state = 0; state < states.length; state++) {
            for (int a : EDGES) {
                for (int b : EDGES) {
                    callEverything(states[state], a, b, "state " + state + " with " + a + " " + b);
                }
            }
        }
    }

    private static void callEverything(Refusal.Calls state, int a, int b, String what) {
        SparseFormulas x = new SparseFormulas();
        try {
            state.on(x);
            for (int r = -1; r <= 6; r++) {
                x.array(r, a, b);
                x.assign(r, a, b, 0);
                x.assign(r, 0, 1, a);
                x.put(r, a, b, a);
                x.get(r, a, b);
                x.format(r, a);
                x.length(r, b);
                x.pattern(r, a);
                x.turn(r);
            }
            callWithRegisters(x, a, b);
            x.constant(a);
            x.span(b);
            x.join(a);
            x.negate();
            for (int to = 0; to < 6; to++) {
                x.assign(to, a, b, 1);
                x.make(to, a, b, 1);
                x.make(to, a, 0, b);
                x.make(to, 6, a, b);
                x.turn(to);
                x.digest(to);
            }
            x.scrap();
            x.join(b);
            x.negate();
            x.span(a);
            x.assign(b, a, a, b);
        } catch (RuntimeException | Error thrown) {
            Check.due(what + " threw " + thrown, true, false);
        }
    }

    private static void callWithRegisters(SparseFormulas x, int a, int b) {
        x.make(a, b, b, b);
        x.get(a, b, b);
        x.put(a, b, b, b);
        x.format(a, b);
        x.room(a);
        x.filled(a);
        x.length(a, b);
        x.pattern(a, b);
        x.turn(a);
        x.same(a, b);
        x.digest(a);
        x.array(a, b, b);
        x.assign(a, b, b, b);
    }

    // "A refused call answers the code named and changes nothing.": each code of each call once
    private static void refusedChangesNothing() {
        Refusal.due("make", Refusal::busy, x -> x.make(2, 7, 1, 0), Check.BAD_ARG);
        Refusal.due("get", Refusal::busy, x -> x.get(2, 2, 0), Check.NONE);
        Refusal.due("put", Refusal::busy, x -> x.put(2, 0, 3, 1), Check.NONE);
        Refusal.due("format", Refusal::busy, x -> x.format(2, 8), Check.BAD_ARG);
        Refusal.due("length", Refusal::busy, x -> x.length(2, 2), Check.BAD_ARG);
        Refusal.due("pattern", Refusal::busy, x -> x.pattern(2, 2), Check.NONE);
        Refusal.due("turn", Refusal::busy, x -> x.turn(1), Check.NONE);
        Refusal.due("array", Refusal::busy, x -> x.array(2, 0, 0), Check.BAD_ARG);
        Refusal.due("array, full", TermsBoundaryTest::sixConstants, x -> x.array(2, 0, 1), Check.FULL);
        Refusal.due("constant", Refusal::busy, x -> x.constant(100), Check.BAD_ARG);
        Refusal.due("constant, full", TermsBoundaryTest::sixConstants, x -> x.constant(1), Check.FULL);
        Refusal.due("negate", Refusal::busyWithNone, SparseFormulas::negate, Check.TOO_FEW);
        Refusal.due("join", Refusal::busy, x -> x.join(3), Check.BAD_ARG);
        Refusal.due("join of one", Refusal::busyWithOne, x -> x.join(0), Check.TOO_FEW);
        Refusal.due("span", Refusal::busy, x -> x.span(3), Check.BAD_ARG);
        Refusal.due("span of no index", Refusal::busy, x -> x.span(0), Check.NONE);
        Refusal.due("span of several", TermsBoundaryTest::mismatch, x -> x.span(1), Check.MISMATCH);
        Refusal.due("assign", Refusal::busyWithOne, x -> x.assign(2, 1, 1, 0), Check.BAD_ARG);
        Refusal.due("assign of two", Refusal::busy, x -> x.assign(2, 1, 2, 0), Check.TOO_FEW);
        Refusal.due("assign, no index", TermsBoundaryTest::mismatch, x -> x.assign(2, 1, 0, 0), Check.NONE);
        Refusal.due("assign, several", TermsBoundaryTest::mismatch, x -> x.assign(2, 1, -1, 0), Check.MISMATCH);
    }

    // Each object has registers and a stack of its own.
    private static void answersOfDifferentObjects() {
        SparseFormulas x = new SparseFormulas();
        SparseFormulas y = new SparseFormulas();
        Refusal.busy(x);
        Check.due("the other object's stack", y.negate(), Check.TOO_FEW);
        for (int r = 0; r < 6; r++) {
            Check.due("the other object's numbers", y.filled(r), 0);
            Check.due("the other object's rows", y.length(r, 0), 1);
        }
        Check.due("this object's stack", x.negate(), 2);
    }

    // "An object is used for at most 512 calls after it has been made": the last of them answers as the first
    private static void callNumber512() {
        SparseFormulas x = new SparseFormulas();
        x.make(3, 2, 2, 3);
        x.array(3, 0, 1);
        for (int call = 3; call <= 511; call++) {
            Check.due("put of call " + call, x.put(3, call % 2, 1, call), call < 5 ? 0 : call - 2);
        }
        Check.due("call 512", x.assign(3, 1, -1, 1), 0);
    }
}
