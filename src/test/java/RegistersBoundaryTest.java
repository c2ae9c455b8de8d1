/** The boundary cases that promises 1 to 12 name, a method for each sentence or clause. */
public final class RegistersBoundaryTest {
    private static final int[] OUTSIDE_ROWS = {Integer.MIN_VALUE, -7, -1, 7, 8, 36, Integer.MAX_VALUE};
    private static final int HIGH = Integer.MAX_VALUE;
    private static final int LOW = Integer.MIN_VALUE;

    public static void main(String[] args) {
        newRegisters();
        newStack();
        makeZerosOverNumbers();
        makeOfEveryRank();
        makeTooSmallOrTooLarge();
        makeColumnsWithoutRows();
        makeInNoFormatOfTheRank();
        makeInEveryFormatOfTheRank();
        makeLeavesTheStack();
        getAtTheEdges();
        getNowhere();
        putAtTheEdges();
        putNowhere();
        putAnswersWhatItWas();
        formatOfNoRank();
        formatTellsTheRoomThen();
        roomEmptyAndFull();
        filledEmptyAndFull();
        lengthOfEachRank();
        lengthOfNeitherRowsNorColumns();
        patternEmptyAndFull();
        patternOfVectorsAndNumbers();
        patternOfNoRow();
        turnOfNoMatrix();
        turnOfOneRowAndOneColumn();
        turnOfEveryFormat();
        turnOfAFullMatrix();
        sameOfDifferentRanks();
        sameOfDifferentLengths();
        sameOfDifferentNumbers();
        sameOfDifferentFormats();
        sameOfNoRegister();
        digestOfEachPlace();
        digestEmpty();
        digestWraps();
        Check.end();
    }

    // Promise 1: "All registers have rank 0 with the number 0"
    private static void newRegisters() {
        for (int r = 0; r < 6; r++) {
            SparseFormulas x = new SparseFormulas();
            Check.due("new number", x.get(r, 0, 0), 0);
            Check.due("new rows", x.length(r, 0), 1);
            Check.due("new columns", x.length(r, 1), 1);
            Check.due("no matrix", x.turn(r), Check.NONE);
            Check.due("no vector", x.format(r, 1), Check.BAD_ARG);
            Check.due("room in the format 0", x.room(r), 1);
            Check.due("a number as a formula", x.array(r, -1, -1), 1);
        }
    }

    // Promise 1: "the stack is empty"
    private static void newStack() {
        SparseFormulas x = new SparseFormulas();
        Check.due("new negate", x.negate(), Check.TOO_FEW);
        Check.due("new join", x.join(0), Check.TOO_FEW);
        Check.due("new assign", x.assign(0, -1, -1, 0), Check.TOO_FEW);
        for (int p = 0; p < 3; p++) {
            Check.due("new span", x.span(p), Check.NONE);
        }
        for (int n = 1; n <= 6; n++) {
            Check.due("new stack has place for " + n, x.array(0, -1, -1), n);
        }
        for (int part = 7; part <= 20; part++) {
            Check.due("new stack has part " + part, x.negate(), 6);
        }
        Check.due("new stack has no part 21", x.negate(), Check.FULL);
    }

    // Promise 2: "Register r becomes an array of 0s"
    private static void makeZerosOverNumbers() {
        int[][] shapes = {{0, 0}, {1, 0}, {6, 0}, {1, 1}, {2, 3}, {6, 6}};
        for (int[] from : shapes) {
            for (int[] to : shapes) {
                SparseFormulas x = new SparseFormulas();
                x.make(4, from[0], from[1], 0);
                for (int place = 0; place < 36; place++) {
                    x.put(4, place / 6, place % 6, -5);
                }
                x.make(4, to[0], to[1], 0);
                Check.due("0s after make", x.filled(4), 0);
                Check.due("first number after make", x.get(4, 0, 0), 0);
                Check.due("digest after make", x.digest(4), 0);
                x.make(4, 6, 6, 0);
                Check.due("0s outside after make", x.filled(4), 0);
            }
        }
    }

    // Promise 2: "of rank 0 if n and m are 0, rank 1 if only m is, else rank 2", "Otherwise the rank."
    private static void makeOfEveryRank() {
        SparseFormulas x = new SparseFormulas();
        for (int n = 1; n <= 6; n++) {
            Check.due("make rank 1 of " + n, x.make(0, n, 0, 1), 1);
            Check.due("rows of rank 1", x.length(0, 0), n);
            Check.due("columns of rank 1", x.length(0, 1), 1);
            Check.due("rank 1 is no matrix", x.turn(0), Check.NONE);
            for (int m = 1; m <= 6; m++) {
                Check.due("make rank 2 of " + n + " " + m, x.make(0, n, m, 7), 2);
                Check.due("rows of rank 2", x.length(0, 0), n);
                Check.due("columns of rank 2", x.length(0, 1), m);
                Check.due("rank 2 is a matrix", x.turn(0), m);
            }
        }
        Check.due("make rank 0", x.make(0, 0, 0, 0), 0);
        Check.due("rows of rank 0", x.length(0, 0), 1);
        Check.due("columns of rank 0", x.length(0, 1), 1);
        Check.due("rank 0 is no vector", x.format(0, 1), Check.BAD_ARG);
    }

    // Promise 2: "BAD_ARG if n or m is not 0 to 6"
    private static void makeTooSmallOrTooLarge() {
        for (int w : OUTSIDE_ROWS) {
            Refusal.due("make rows " + w, Refusal::busy, x -> x.make(2, w, 1, 0), Check.BAD_ARG);
            Refusal.due("make vector " + w, Refusal::busy, x -> x.make(2, w, 0, 0), Check.BAD_ARG);
            Refusal.due("make columns " + w, Refusal::busy, x -> x.make(2, 1, w, 0), Check.BAD_ARG);
            Refusal.due("make rows and columns " + w, Refusal::busy, x -> x.make(2, w, w, 0), Check.BAD_ARG);
        }
    }

    // Promise 2: "n is 0 but m is not"
    private static void makeColumnsWithoutRows() {
        for (int m = -1; m <= 7; m++) {
            int columns = m;
            if (m != 0) {
                Refusal.due("make 0 rows, columns " + m, Refusal::busy, x -> x.make(3, 0, columns, 0), Check.BAD_ARG);
            }
        }
    }

    // Promise 2: "the format is none of that rank"
    private static void makeInNoFormatOfTheRank() {
        int[] formats = {Integer.MIN_VALUE, -8, -1, 1, 2, 3, 4, 7, 8, 9, 16, Integer.MAX_VALUE};
        for (int f : formats) {
            Refusal.due("make rank 0, format " + f, Refusal::busy, x -> x.make(2, 0, 0, f), Check.BAD_ARG);
            if (f != 1) {
                Refusal.due("make rank 1, format " + f, Refusal::busy, x -> x.make(2, 6, 0, f), Check.BAD_ARG);
            }
            if (f < 0 || f > 7) {
                Refusal.due("make rank 2, format " + f, Refusal::busy, x -> x.make(2, 6, 6, f), Check.BAD_ARG);
            }
        }
    }

    // Promise 2, with the formats of "Terms": the least and the greatest format of each rank are taken and kept
    private static void makeInEveryFormatOfTheRank() {
        SparseFormulas x = new SparseFormulas();
        Check.due("make rank 0, format 0", x.make(0, 0, 0, 0), 0);
        Check.due("make rank 1, format 0", x.make(1, 6, 0, 0), 1);
        Check.due("room of it", x.room(1), 6);
        Check.due("make rank 1, format 1", x.make(1, 6, 0, 1), 1);
        Check.due("room of it", x.room(1), 0);
        int[] rooms = {6, 1, 3, 1, 6, 1, 2, 1};
        for (int f = 0; f <= 7; f++) {
            Check.due("make rank 2, format " + f, x.make(2, 2, 3, f), 2);
            x.put(2, 1, 2, 1);
            Check.due("room of it", x.room(2), rooms[f]);
        }
    }

    // Promise 2 speaks of the register alone: the other registers and the formulas on the stack stay.
    private static void makeLeavesTheStack() {
        SparseFormulas x = new SparseFormulas();
        Refusal.busy(x);
        int before = x.digest(1) + x.digest(3);
        Check.due("make of an array on the stack", x.make(2, 6, 6, 0), 2);
        Check.due("the other registers", x.digest(1) + x.digest(3), before);
        Check.due("rows on the stack", x.span(1), 2);
        Check.due("columns on the stack", x.span(2), 3);
        Check.due("number on the stack", x.negate(), 2);
    }

    // Promise 3: "The number at (i, j) of register r"
    private static void getAtTheEdges() {
        SparseFormulas x = new SparseFormulas();
        x.make(5, 6, 6, 7);
        for (int place = 0; place < 36; place++) {
            x.put(5, place / 6, place % 6, place - 17);
        }
        for (int place = 0; place < 36; place++) {
            Check.due("get " + place / 6 + " " + place % 6, x.get(5, place / 6, place % 6), place - 17);
        }
        Check.due("get of a place without room", x.make(4, 2, 2, 7), 2);
        Check.due("its number", x.get(4, 1, 1), 0);
    }

    // Promise 3: "NONE if there is no such place"
    private static void getNowhere() {
        int[][] shapes = {{0, 0}, {1, 0}, {6, 0}, {1, 1}, {1, 6}, {6, 1}, {3, 4}, {6, 6}};
        for (int[] shape : shapes) {
            int n = shape[0] == 0 ? 1 : shape[0];
            int m = shape[1] == 0 ? 1 : shape[1];
            Refusal.Calls made = x -> x.make(3, shape[0], shape[1], 0);
            int[][] nowhere = {{n, 0}, {0, m}, {n, m}, {-1, 0}, {0, -1}, {-1, m}, {n - 1, m}, {n, m - 1}, {HIGH, 0},
                {0, HIGH}, {LOW, 0}, {0, LOW}, {n - 1, HIGH}, {1 << 30, 1 << 30}};
            for (int[] at : nowhere) {
                String what = "get " + at[0] + " " + at[1] + " of " + shape[0] + " " + shape[1];
                Refusal.due(what, made, x -> x.get(3, at[0], at[1]), Check.NONE);
            }
        }
    }

    // Promise 4: "The number at (i, j) of register r becomes x."
    private static void putAtTheEdges() {
        for (int place = 0; place < 36; place++) {
            SparseFormulas x = new SparseFormulas();
            x.make(0, 6, 6, 0);
            x.make(1, 6, 6, 3);
            x.make(2, 6, 6, 0);
            Check.due("put over 0", x.put(1, place / 6, place % 6, 9), 0);
            Check.due("it is there", x.get(1, place / 6, place % 6), 9);
            Check.due("nowhere else", x.filled(1), 1);
            Check.due("not in the registers beside", x.filled(0) + x.filled(2), 0);
        }
    }

    // Promise 4: "NONE if there is no such place."
    private static void putNowhere() {
        int[][] nowhere = {{6, 0}, {0, 6}, {-1, 0}, {0, -1}, {7, 7}, {HIGH, 0}, {0, HIGH}, {LOW, 0}, {0, LOW}};
        for (int[] at : nowhere) {
            for (int r = 0; r < 6; r++) {
                int register = r;
                Refusal.due("put at " + at[0] + " " + at[1] + " of register " + r, Refusal::busy,
                    x -> x.put(register, at[0], at[1], 6), Check.NONE);
            }
        }
        Refusal.due("put below a number", Refusal::busy, x -> x.put(0, 1, 0, 6), Check.NONE);
        Refusal.due("put beside a number", Refusal::busy, x -> x.put(0, 0, 1, 6), Check.NONE);
        Refusal.due("put below a vector", Refusal::busy, x -> x.put(1, 4, 0, 6), Check.NONE);
        Refusal.due("put beside a vector", Refusal::busy, x -> x.put(1, 0, 1, 6), Check.NONE);
        Refusal.due("put below a matrix", Refusal::busy, x -> x.put(2, 2, 0, 6), Check.NONE);
        Refusal.due("put beside a matrix", Refusal::busy, x -> x.put(2, 0, 3, 6), Check.NONE);
    }

    // Promise 4: "Otherwise what it was."
    private static void putAnswersWhatItWas() {
        int[] numbers = {1, -1, HIGH, LOW, 0, Check.BAD_ARG, Check.NONE, Check.FULL, 0, 0};
        SparseFormulas x = new SparseFormulas();
        x.make(1, 6, 0, 1);
        x.make(2, 6, 6, 7);
        int was = 0;
        for (int number : numbers) {
            Check.due("what the number was", x.put(0, 0, 0, number), was);
            Check.due("what the vector's last was", x.put(1, 5, 0, number), was);
            Check.due("what the matrix's last was", x.put(2, 5, 5, number), was);
            was = number;
        }
    }

    // Promise 5: "BAD_ARG if it is none of its rank."
    private static void formatOfNoRank() {
        int[] formats = {LOW, -8, -4, -1, 1, 2, 7, 8, 9, 100, HIGH};
        for (int f : formats) {
            Refusal.due("format " + f + " of a number", Refusal::busy, x -> x.format(0, f), Check.BAD_ARG);
            if (f != 1) {
                Refusal.due("format " + f + " of vector 1", Refusal::busy, x -> x.format(1, f), Check.BAD_ARG);
                Refusal.due("format " + f + " of vector 4", Refusal::busy, x -> x.format(4, f), Check.BAD_ARG);
            }
            if (f < 0 || f > 7) {
                Refusal.due("format " + f + " of matrix 2", Refusal::busy, x -> x.format(2, f), Check.BAD_ARG);
                Refusal.due("format " + f + " of matrix 3", Refusal::busy, x -> x.format(3, f), Check.BAD_ARG);
            }
        }
    }

    // Promise 5: "Otherwise the number of places that have room then."
    private static void formatTellsTheRoomThen() {
        int[] rooms = {6, 1, 3, 1, 6, 1, 2, 1};
        SparseFormulas x = new SparseFormulas();
        x.make(2, 2, 3, 0);
        x.put(2, 1, 2, 4);
        for (int from = 0; from < 8; from++) {
            for (int to = 0; to < 8; to++) {
                x.format(2, from);
                Check.due("format " + to + " after " + from, x.format(2, to), rooms[to]);
                Check.due("room after it", x.room(2), rooms[to]);
            }
        }
        Check.due("its number", x.get(2, 1, 2), 4);
        x.make(1, 6, 0, 0);
        Check.due("vector of 0s in format 1", x.format(1, 1), 0);
        x.put(1, 5, 0, 1);
        Check.due("vector in format 1 again", x.format(1, 1), 1);
        Check.due("vector in format 0", x.format(1, 0), 6);
        Check.due("number in format 0", x.format(0, 0), 1);
    }

    // Promise 6: "The number of places of register r that have room.", from none to all
    private static void roomEmptyAndFull() {
        SparseFormulas x = new SparseFormulas();
        Check.due("room of rank 0", x.room(5), 1);
        x.make(5, 6, 6, 3);
        Check.due("no room", x.room(5), 0);
        for (int place = 0; place < 36; place++) {
            x.put(5, place / 6, place % 6, LOW);
            Check.due("room for " + (place + 1), x.room(5), place + 1);
        }
        x.format(5, 6);
        Check.due("all room", x.room(5), 36);
        x.put(5, 5, 5, 0);
        Check.due("room of a line with one 0", x.room(5), 36);
    }

    // Promise 7: "The number of places of register r whose number is not 0.", from none to all, in every format
    private static void filledEmptyAndFull() {
        for (int f = 0; f < 8; f++) {
            SparseFormulas x = new SparseFormulas();
            x.make(0, 6, 6, f);
            Check.due("none filled", x.filled(0), 0);
            for (int place = 0; place < 36; place++) {
                x.put(0, place / 6, place % 6, place % 2 == 0 ? LOW : -1);
                Check.due("filled", x.filled(0), place + 1);
            }
            for (int place = 0; place < 36; place++) {
                x.put(0, place / 6, place % 6, 0);
                Check.due("filled again", x.filled(0), 35 - place);
            }
        }
        SparseFormulas x = new SparseFormulas();
        Check.due("the number 0", x.filled(3), 0);
        x.put(3, 0, 0, LOW);
        Check.due("the number that is the lowest", x.filled(3), 1);
        x.make(3, 6, 0, 0);
        Check.due("an empty vector", x.filled(3), 0);
        for (int i = 0; i < 6; i++) {
            x.put(3, i, 0, i + 1);
            Check.due("a vector with " + (i + 1), x.filled(3), i + 1);
        }
    }

    // Promise 8: "The number of rows (k = 0), or columns (k = 1; 1 for a vector)", "for rank 0 both are 1"
    private static void lengthOfEachRank() {
        SparseFormulas x = new SparseFormulas();
        for (int n = 1; n <= 6; n++) {
            x.make(1, n, 0, 1);
            Check.due("rows of a vector", x.length(1, 0), n);
            Check.due("columns of a vector", x.length(1, 1), 1);
            x.make(1, n, 7 - n, 1);
            Check.due("rows of a matrix", x.length(1, 0), n);
            Check.due("columns of a matrix", x.length(1, 1), 7 - n);
        }
        Check.due("rows of a new number", x.length(2, 0), 1);
        Check.due("columns of a new number", x.length(2, 1), 1);
        x.make(1, 0, 0, 0);
        Check.due("rows of a number that was a matrix", x.length(1, 0), 1);
        Check.due("columns of a number that was a matrix", x.length(1, 1), 1);
    }

    // Promise 8: "BAD_ARG if k is not 0 or 1."
    private static void lengthOfNeitherRowsNorColumns() {
        for (int k : new int[] {LOW, -2, -1, 2, 3, 6, HIGH}) {
            for (int r = 0; r < 6; r++) {
                int register = r;
                Refusal.due("length " + k, Refusal::busy, x -> x.length(register, k), Check.BAD_ARG);
            }
        }
    }

    // Promise 9: "The set of the j, as the sum of 2 to the power j, at which row i of register r is not 0"
    private static void patternEmptyAndFull() {
        for (int set = 0; set < 64; set++) {
            SparseFormulas x = new SparseFormulas();
            x.make(0, 6, 6, set % 8);
            for (int j = 0; j < 6; j++) {
                x.put(0, 5, j, (set >> j & 1) == 0 ? 0 : j % 2 == 0 ? LOW : -1);
                x.put(0, 0, j, (set >> j & 1) == 0 ? 1 : 0);
            }
            Check.due("pattern of the last row", x.pattern(0, 5), set);
            Check.due("pattern of the first row", x.pattern(0, 0), 63 - set);
            Check.due("pattern of an empty row", x.pattern(0, 3), 0);
        }
    }

    // Promise 9: "(of a vector the place i as a row of one)"; a number has the one row that length tells
    private static void patternOfVectorsAndNumbers() {
        SparseFormulas x = new SparseFormulas();
        x.make(0, 6, 0, 0);
        for (int i = 0; i < 6; i++) {
            Check.due("pattern of a vector's 0", x.pattern(0, i), 0);
            x.put(0, i, 0, LOW);
            Check.due("pattern of a vector's number", x.pattern(0, i), 1);
        }
        Check.due("pattern of the number 0", x.pattern(1, 0), 0);
        x.put(1, 0, 0, LOW);
        Check.due("pattern of the lowest number", x.pattern(1, 0), 1);
    }

    // Promise 9: "NONE if there is no row i"
    private static void patternOfNoRow() {
        int[] rows = {1, 4, 2, 3, 6, 6};
        for (int r = 0; r < 6; r++) {
            int register = r;
            for (int i : new int[] {LOW, -6, -1, rows[r], rows[r] + 1, 6, 7, 36, HIGH}) {
                Refusal.due("pattern of row " + i, Refusal::busy, x -> x.pattern(register, i), Check.NONE);
            }
        }
    }

    // Promise 10: "NONE if its rank is not 2."
    private static void turnOfNoMatrix() {
        Refusal.due("turn a number", Refusal::busy, x -> x.turn(0), Check.NONE);
        Refusal.due("turn a vector", Refusal::busy, x -> x.turn(1), Check.NONE);
        Refusal.due("turn a vector of 6", Refusal::busy, x -> x.turn(4), Check.NONE);
        Refusal.due("turn a vector of one", x -> x.make(5, 1, 0, 1), x -> x.turn(5), Check.NONE);
        SparseFormulas x = new SparseFormulas();
        x.make(5, 1, 1, 0);
        Check.due("turn a matrix of one", x.turn(5), 1);
    }

    // Promise 10: "Register r's rows become its columns", "Otherwise the number of its rows afterwards."
    private static void turnOfOneRowAndOneColumn() {
        SparseFormulas x = new SparseFormulas();
        x.make(0, 1, 6, 0);
        for (int j = 0; j < 6; j++) {
            x.put(0, 0, j, j + 1);
        }
        Check.due("turn one row", x.turn(0), 6);
        Check.due("one column is left", x.length(0, 1), 1);
        for (int i = 0; i < 6; i++) {
            Check.due("its number " + i, x.get(0, i, 0), i + 1);
        }
        Check.due("no second column", x.get(0, 0, 1), Check.NONE);
        Check.due("turn one column", x.turn(0), 1);
        Check.due("six columns are back", x.length(0, 1), 6);
        Check.due("its last number", x.get(0, 0, 5), 6);
        Check.due("no second row", x.get(0, 1, 0), Check.NONE);
    }

    // Promise 10: "in format 4 (1 - t) + 2 f + s if it was 4 t + 2 f + s"
    private static void turnOfEveryFormat() {
        int[] roomOfLast = {10, 1, 2, 1, 10, 1, 5, 1};
        int[] roomOfNone = {10, 0, 0, 0, 10, 0, 0, 0};
        for (int f = 0; f < 8; f++) {
            int turned = 4 * (1 - f / 4) + f % 4;
            SparseFormulas x = new SparseFormulas();
            x.make(0, 2, 5, f);
            Check.due("turn in format " + f, x.turn(0), 5);
            Check.due("room of none in format " + turned, x.room(0), roomOfNone[turned]);
            x.put(0, 4, 1, 3);
            Check.due("room of one in format " + turned, x.room(0), roomOfLast[turned]);
            Check.due("turn back", x.turn(0), 2);
            Check.due("room, turned back", x.room(0), roomOfLast[turned]);
            Check.due("its number", x.get(0, 1, 4), 3);
        }
    }

    // Promise 10, at the greatest lengths: no number is lost
    private static void turnOfAFullMatrix() {
        SparseFormulas x = new SparseFormulas();
        x.make(0, 6, 6, 7);
        for (int place = 0; place < 36; place++) {
            x.put(0, place / 6, place % 6, place + 1);
        }
        Check.due("turn 6 rows, 6 columns", x.turn(0), 6);
        for (int place = 0; place < 36; place++) {
            Check.due("turned " + place, x.get(0, place % 6, place / 6), place + 1);
        }
    }

    // Promise 11: "the same rank"
    private static void sameOfDifferentRanks() {
        SparseFormulas x = new SparseFormulas();
        x.make(1, 1, 0, 0);
        x.make(2, 1, 1, 0);
        for (int r = 0; r < 3; r++) {
            for (int s = 0; s < 3; s++) {
                Check.due("ranks " + r + " and " + s, x.same(r, s), r == s);
            }
        }
        x.make(1, 6, 0, 0);
        x.make(2, 6, 1, 0);
        Check.due("a vector and one column", x.same(1, 2), false);
    }

    // Promise 11: "lengths"
    private static void sameOfDifferentLengths() {
        for (int n = 1; n <= 6; n++) {
            for (int m = 1; m <= 6; m++) {
                SparseFormulas x = new SparseFormulas();
                x.make(0, n, 0, 0);
                x.make(1, m, 0, 0);
                Check.due("vectors of " + n + " and " + m, x.same(0, 1), n == m);
                x.make(0, n, m, 0);
                x.make(1, m, n, 0);
                Check.due("matrices of " + n + " " + m, x.same(0, 1), n == m);
                x.make(1, 6, m, 0);
                Check.due("matrices of " + n + " and 6 rows", x.same(0, 1), n == 6);
                x.make(1, n, 6, 0);
                Check.due("matrices of " + m + " and 6 columns", x.same(0, 1), m == 6);
            }
        }
    }

    // Promise 11: "numbers": one that differs, at any place, is enough
    private static void sameOfDifferentNumbers() {
        for (int place = 0; place < 36; place++) {
            SparseFormulas x = new SparseFormulas();
            x.make(0, 6, 6, 0);
            x.make(5, 6, 6, 0);
            Check.due("the same 0s", x.same(0, 5), true);
            x.put(5, place / 6, place % 6, LOW);
            Check.due("one number differs", x.same(0, 5), false);
            Check.due("the other way round", x.same(5, 0), false);
            x.put(0, place / 6, place % 6, LOW);
            Check.due("the same again", x.same(0, 5), true);
        }
    }

    // Promise 11 does not ask for the same format.
    private static void sameOfDifferentFormats() {
        for (int f = 0; f < 8; f++) {
            SparseFormulas x = new SparseFormulas();
            x.make(0, 6, 6, 0);
            x.make(1, 6, 6, f);
            Check.due("0s in format " + f, x.same(0, 1), true);
            x.put(0, 5, 0, 1);
            x.put(1, 5, 0, 1);
            Check.due("numbers in format " + f, x.same(0, 1), true);
        }
    }

    // Promise 11, with "Terms": false for no register, also for one and the same
    private static void sameOfNoRegister() {
        SparseFormulas x = new SparseFormulas();
        for (int no : new int[] {LOW, -6, -1, 6, 7, HIGH}) {
            Check.due("same 0 " + no, x.same(0, no), false);
            Check.due("same " + no + " 5", x.same(no, 5), false);
            Check.due("same " + no + " " + no, x.same(no, no), false);
        }
        for (int r = 0; r < 6; r++) {
            Check.due("same as itself", x.same(r, r), true);
        }
    }

    // Promise 12: "over all places of register r, of (7 i + j + 1) times its number"
    private static void digestOfEachPlace() {
        for (int place = 0; place < 36; place++) {
            int i = place / 6;
            int j = place % 6;
            SparseFormulas x = new SparseFormulas();
            x.make(0, 6, 6, place % 8);
            x.put(0, i, j, -3);
            Check.due("digest of one number", x.digest(0), -3 * (7 * i + j + 1));
            x.make(1, 6, 0, 1);
            x.put(1, i, 0, 2);
            Check.due("digest of a vector", x.digest(1), 2 * (7 * i + 1));
        }
    }

    // Promise 12: the digest of 0s is 0
    private static void digestEmpty() {
        SparseFormulas x = new SparseFormulas();
        Check.due("digest of the number 0", x.digest(0), 0);
        x.make(0, 6, 6, 0);
        Check.due("digest of 0s", x.digest(0), 0);
        x.make(0, 6, 0, 1);
        Check.due("digest of a vector of 0s", x.digest(0), 0);
    }

    // Promise 12: "The sum, wrapping"
    private static void digestWraps() {
        SparseFormulas x = new SparseFormulas();
        x.put(0, 0, 0, LOW);
        Check.due("digest of the lowest", x.digest(0), LOW);
        x.make(0, 6, 6, 0);
        x.put(0, 5, 5, HIGH);
        Check.due("a product wraps", x.digest(0), -41 + LOW);
        x.make(0, 1, 2, 0);
        x.put(0, 0, 0, HIGH);
        x.put(0, 0, 1, 1);
        Check.due("the sum wraps", x.digest(0), LOW + 1);
        x.put(0, 0, 1, LOW);
        Check.due("twice the lowest is 0", x.digest(0), HIGH);
    }
}
