/** The boundary cases that promise 19 names, a method for each sentence or clause. */
public final class AssignBoundaryTest {
    private static final int HIGH = Integer.MAX_VALUE;
    private static final int LOW = Integer.MIN_VALUE;
    private static final int[] NO_INDICES = {LOW, -3, -2, 3, 4, HIGH};

    public static void main(String[] args) {
        everyRank();
        leastAndGreatestLengths();
        sumOverAllOtherIndices();
        sumOfTheWholeFormula();
        sumWraps();
        constantAlone();
        ontoAnArrayOfTheFormula();
        indexOutOfRange();
        secondIndexWithoutFirst();
        oneIndexTwice();
        noFormatOfTheRank();
        everyFormatOfTheRank();
        noneOnTheStack();
        severalOnTheStack();
        indexThatDoesNotStandThere();
        indexWithSeveralLengths();
        badArgumentBeforeTooFew();
        badArgumentBeforeNone();
        badArgumentBeforeMismatch();
        tooFewBeforeNone();
        tooFewBeforeMismatch();
        noneBeforeMismatch();
        answersTheRoom();
        stackIsEmptyThen();
        refusedKeepsTheStack();
        Check.end();
    }

    private interface Wrong {
        int on(SparseFormulas x, int register);
    }

    /** Each way in which an argument of assign can be out of its range. */
    private static final Wrong[] WRONG = {
        (x, to) -> x.assign(-1, -1, -1, 0), (x, to) -> x.assign(6, -1, -1, 0),
        (x, to) -> x.assign(-1, 0, 1, 0), (x, to) -> x.assign(6, 0, 1, 0),
        (x, to) -> x.assign(to, -2, -1, 0), (x, to) -> x.assign(to, 3, -1, 0),
        (x, to) -> x.assign(to, 0, -2, 0), (x, to) -> x.assign(to, 0, 3, 0),
        (x, to) -> x.assign(to, -1, 0, 0), (x, to) -> x.assign(to, -1, 2, 0),
        (x, to) -> x.assign(to, 0, 0, 0), (x, to) -> x.assign(to, 1, 1, 0), (x, to) -> x.assign(to, 2, 2, 0),
        (x, to) -> x.assign(to, -1, -1, -1), (x, to) -> x.assign(to, -1, -1, 1),
        (x, to) -> x.assign(to, 0, -1, -1), (x, to) -> x.assign(to, 1, -1, 2),
        (x, to) -> x.assign(to, 0, 1, -1), (x, to) -> x.assign(to, 1, 2, 8)
    };

    private static SparseFormulas after(Refusal.Calls calls) {
        SparseFormulas x = new SparseFormulas();
        calls.on(x);
        return x;
    }

    /** Index 1 has the lengths 4, 6 and 3, index 2 has length 2, index 0 does not stand there. */
    private static void several(SparseFormulas x) {
        Refusal.busyWithNone(x);
        x.array(1, 1, -1);
        x.array(4, 1, -1);
        x.join(0);
        x.array(3, 1, 2);
        x.join(2);
    }

    /** Two on the stack, and the one on the top has an index with several lengths. */
    private static void severalOnTwo(SparseFormulas x) {
        Refusal.busyWithNone(x);
        x.array(1, 1, -1);
        x.array(1, 1, -1);
        x.array(4, 1, -1);
        x.join(0);
    }

    /** Two on the stack, and the one below the top has an index with several lengths. */
    private static void severalBelow(SparseFormulas x) {
        several(x);
        x.constant(1);
    }

    private static void constantOnly(SparseFormulas x) {
        Refusal.busyWithNone(x);
        x.constant(3);
    }

    /** Register 0: as many rows and columns as told, its numbers 1, 2, 3 and on. */
    private static SparseFormulas counted(int n, int m) {
        SparseFormulas x = new SparseFormulas();
        x.make(0, n, m, 0);
        int number = 1;
        for (int i = 0; i < n; i++) {
            for (int j = 0; j < m; j++) {
                x.put(0, i, j, number);
                number++;
            }
        }
        return x;
    }

    // "p stands for i and q for j (rank 0 if both are -1, rank 1 if only q is)"
    private static void everyRank() {
        for (int p = 0; p < 3; p++) {
            for (int q = 0; q < 3; q++) {
                if (p == q) {
                    continue;
                }
                SparseFormulas x = counted(2, 3);
                x.array(0, p, q);
                Check.due("rank 2", x.assign(1, p, q, 0), 6);
                Check.due("rank 2, the same", x.same(0, 1), true);
                x.array(0, p, q);
                Check.due("rank 1 of rows", x.assign(2, p, -1, 0), 2);
                Check.due("rank 1 of rows, numbers", x.digest(2), 6 + 15 * 8);
                Check.due("rank 1 of rows, rank", x.format(2, 2), Check.BAD_ARG);
                Check.due("rank 1 of rows, columns", x.length(2, 1), 1);
                Check.due("rank 1 of rows, nothing beside", x.get(2, 0, 1), Check.NONE);
                x.array(0, p, q);
                Check.due("rank 1 of columns", x.assign(2, q, -1, 0), 3);
                Check.due("rank 1 of columns, numbers", x.digest(2), 5 + 7 * 8 + 9 * 15);
                x.array(0, p, q);
                Check.due("rank 0", x.assign(2, -1, -1, 0), 1);
                Check.due("rank 0, number", x.get(2, 0, 0), 21);
                Check.due("rank 0, rank", x.format(2, 1), Check.BAD_ARG);
                Check.due("rank 0, rows", x.length(2, 0), 1);
                Check.due("rank 0, columns", x.length(2, 1), 1);
                Check.due("rank 0, nothing beside", x.get(2, 0, 1), Check.NONE);
                x.array(0, p, q);
                Check.due("rank 2, turned", x.assign(2, q, p, 0), 6);
                x.turn(2);
                Check.due("rank 2, turned back", x.same(0, 2), true);
            }
        }
    }

    // The lengths of "Terms", 1 to 6, are those of the array that is made.
    private static void leastAndGreatestLengths() {
        for (int n = 1; n <= 6; n++) {
            for (int m = 1; m <= 6; m++) {
                SparseFormulas x = counted(n, m);
                x.array(0, 2, 0);
                Check.due("assign " + n + " " + m, x.assign(5, 2, 0, 0), n * m);
                Check.due("the same " + n + " " + m, x.same(0, 5), true);
                x.array(0, 2, 0);
                Check.due("assign the rows of " + n + " " + m, x.assign(5, 2, -1, 0), n);
                Check.due("its last number", x.get(5, n - 1, 0), m * n * m - m * (m - 1) / 2);
                Check.due("no number more", x.get(5, n, 0), Check.NONE);
            }
        }
    }

    // "over all numbers of those indices that are not p and q"
    private static void sumOverAllOtherIndices() {
        SparseFormulas x = counted(6, 6);
        x.make(1, 6, 6, 0);
        for (int i = 0; i < 6; i++) {
            x.put(1, i, i, 1);
        }
        x.array(0, 0, 2);
        x.array(1, 2, 1);
        x.join(2);
        Check.due("a product over 6 numbers", x.assign(2, 0, 1, 0), 36);
        Check.due("is the matrix", x.same(0, 2), true);
        x.array(0, 0, 2);
        x.array(1, 2, 1);
        x.join(2);
        Check.due("a vector, summed over two", x.assign(2, 1, -1, 0), 6);
        Check.due("its first", x.get(2, 0, 0), 96);
        Check.due("its last", x.get(2, 5, 0), 126);
        x.array(0, 0, 2);
        x.array(1, 2, 1);
        x.join(2);
        Check.due("a number, summed over three", x.assign(2, -1, -1, 0), 1);
        Check.due("its number", x.get(2, 0, 0), 666);
        x.make(3, 6, 0, 0);
        x.array(3, 0, -1);
        x.array(3, 1, -1);
        x.array(3, 2, -1);
        x.join(0);
        x.join(0);
        x.constant(1);
        x.join(0);
        x.assign(2, -1, -1, 0);
        Check.due("216 values", x.get(2, 0, 0), 216);
    }

    // "the sum of the formula's values": a term without the index is in each of the values
    private static void sumOfTheWholeFormula() {
        SparseFormulas x = counted(2, 3);
        x.put(1, 0, 0, 100);
        x.array(0, 0, 1);
        x.array(1, -1, -1);
        x.join(0);
        Check.due("a number in each column", x.assign(2, 0, -1, 0), 2);
        Check.due("first row", x.get(2, 0, 0), 6 + 300);
        Check.due("second row", x.get(2, 1, 0), 15 + 300);
        x.array(0, 0, 1);
        x.constant(0);
        x.join(2);
        x.constant(1);
        x.join(1);
        x.assign(2, -1, -1, 0);
        Check.due("times 0, less 1, for each of the 6", x.get(2, 0, 0), -6);
    }

    // "the sum (wrapping)"
    private static void sumWraps() {
        SparseFormulas x = new SparseFormulas();
        x.make(0, 2, 2, 0);
        x.put(0, 0, 0, HIGH);
        x.put(0, 0, 1, 1);
        x.put(0, 1, 0, LOW);
        x.put(0, 1, 1, LOW);
        x.array(0, 0, 1);
        Check.due("sums that wrap, in format 1", x.assign(1, 0, -1, 1), 1);
        Check.due("over the top", x.get(1, 0, 0), LOW);
        Check.due("to 0, without room", x.get(1, 1, 0), 0);
    }

    // "rank 0 if both are -1": a formula without an index has one value
    private static void constantAlone() {
        for (int k = -99; k <= 99; k += 99) {
            SparseFormulas x = after(Refusal::busyWithNone);
            x.constant(k);
            Check.due("assign constant " + k, x.assign(5, -1, -1, 0), 1);
            Check.due("number of constant " + k, x.get(5, 0, 0), k);
            Check.due("nothing beside it", x.get(5, 0, 5), Check.NONE);
            Check.due("filled", x.filled(5), k == 0 ? 0 : 1);
        }
    }

    // "Register to becomes the array", also where the formula has the register's own numbers
    private static void ontoAnArrayOfTheFormula() {
        SparseFormulas x = counted(2, 2);
        x.array(0, 0, 2);
        x.array(0, 2, 1);
        x.join(2);
        Check.due("a square onto itself", x.assign(0, 0, 1, 3), 4);
        Check.due("its numbers", x.digest(0), 7 + 10 * 2 + 15 * 8 + 22 * 9);
        x.make(1, 6, 6, 0);
        x.put(1, 5, 5, 3);
        x.array(1, 0, 1);
        x.assign(1, -1, -1, 0);
        Check.due("a matrix becomes its sum", x.get(1, 0, 0), 3);
        x.make(2, 6, 6, 0);
        Check.due("no other register has a number", x.filled(2) + x.filled(3) + x.filled(4) + x.filled(5), 0);
        x.make(1, 6, 6, 0);
        Check.due("nothing is left outside", x.filled(1), 0);
    }

    // "p or q not -1 to 2 ... answers BAD_ARG"
    private static void indexOutOfRange() {
        for (int no : NO_INDICES) {
            Refusal.due("p " + no, Refusal::busyWithOne, x -> x.assign(4, no, -1, 0), Check.BAD_ARG);
            Refusal.due("p " + no + " with q", Refusal::busyWithOne, x -> x.assign(4, no, 1, 0), Check.BAD_ARG);
            Refusal.due("q " + no, Refusal::busyWithOne, x -> x.assign(4, 0, no, 0), Check.BAD_ARG);
            Refusal.due("q " + no + " without p", Refusal::busyWithOne, x -> x.assign(4, -1, no, 0), Check.BAD_ARG);
            Refusal.due("p and q " + no, Refusal::busyWithOne, x -> x.assign(4, no, no, 0), Check.BAD_ARG);
        }
    }

    // "q but not p given"
    private static void secondIndexWithoutFirst() {
        for (int index = 0; index < 3; index++) {
            int q = index;
            Refusal.due("q alone", Refusal::busyWithOne, x -> x.assign(4, -1, q, 0), Check.BAD_ARG);
        }
    }

    // "both the same index"
    private static void oneIndexTwice() {
        for (int index = 0; index < 3; index++) {
            int p = index;
            Refusal.due("one index twice", Refusal::busyWithOne, x -> x.assign(4, p, p, 0), Check.BAD_ARG);
        }
        Check.due("-1 twice is no index", after(Refusal::busyWithOne).assign(4, -1, -1, 0), 1);
    }

    // "or the format none of the rank": the rank of the array that is to be made
    private static void noFormatOfTheRank() {
        for (int f : new int[] {LOW, -8, -1, 1, 2, 7, 8, 9, HIGH}) {
            Refusal.due("rank 0, format " + f, Refusal::busyWithOne, x -> x.assign(5, -1, -1, f), Check.BAD_ARG);
            if (f != 1) {
                Refusal.due("rank 1, format " + f, Refusal::busyWithOne, x -> x.assign(5, 0, -1, f), Check.BAD_ARG);
            }
            if (f < 0 || f > 7) {
                Refusal.due("rank 2, format " + f, Refusal::busyWithOne, x -> x.assign(5, 0, 2, f), Check.BAD_ARG);
            }
        }
    }

    // "the array with this format", the least and the greatest and all between
    private static void everyFormatOfTheRank() {
        int[] rooms = {6, 1, 3, 1, 6, 1, 2, 1};
        int[] roomsOfTwo = {6, 2, 6, 2, 6, 2, 4, 2};
        for (int f = 0; f < 8; f++) {
            SparseFormulas x = after(Refusal::busyWithNone);
            x.array(2, 0, 1);
            Check.due("assign in format " + f, x.assign(5, 0, 1, f), rooms[f]);
            x.put(5, 1, 2, 1);
            Check.due("room in format " + f, x.room(5), roomsOfTwo[f]);
        }
        for (int f = 0; f < 2; f++) {
            SparseFormulas x = after(Refusal::busyWithNone);
            x.array(1, 1, -1);
            Check.due("assign a vector in format " + f, x.assign(5, 1, -1, f), f == 0 ? 4 : 2);
            x.put(5, 0, 0, 1);
            Check.due("room of a vector in format " + f, x.room(5), f == 0 ? 4 : 3);
        }
    }

    // "the stack holds not exactly one answers TOO_FEW": it holds none
    private static void noneOnTheStack() {
        Refusal.due("a new object", x -> { }, x -> x.assign(0, -1, -1, 0), Check.TOO_FEW);
        Refusal.due("after scrap", Refusal::busyWithNone, x -> x.assign(2, -1, -1, 0), Check.TOO_FEW);
        Refusal.due("after assign", x -> {
            Refusal.busyWithOne(x);
            x.assign(5, 0, 2, 0);
        }, x -> x.assign(5, -1, -1, 0), Check.TOO_FEW);
    }

    // "the stack holds not exactly one answers TOO_FEW": it holds two, up to six
    private static void severalOnTheStack() {
        for (int n = 2; n <= 6; n++) {
            int formulas = n;
            Refusal.due(n + " on the stack", x -> {
                Refusal.busyWithNone(x);
                for (int k = 0; k < formulas; k++) {
                    x.array(1, 0, -1);
                }
            }, x -> x.assign(2, 0, -1, 0), Check.TOO_FEW);
        }
    }

    // "p or q does not stand in it answers NONE"
    private static void indexThatDoesNotStandThere() {
        for (int index = 0; index < 3; index++) {
            int p = index;
            int q = (index + 1) % 3;
            int other = (index + 2) % 3;
            Refusal.Calls vector = x -> {
                Refusal.busyWithNone(x);
                x.array(1, p, -1);
            };
            Refusal.Calls matrix = x -> {
                Refusal.busyWithNone(x);
                x.array(2, p, q);
            };
            Refusal.due("p, a constant", AssignBoundaryTest::constantOnly, x -> x.assign(5, p, -1, 0), Check.NONE);
            Refusal.due("p and q, a constant", AssignBoundaryTest::constantOnly, x -> x.assign(5, p, q, 0), Check.NONE);
            Refusal.due("p, a vector", vector, x -> x.assign(5, q, -1, 0), Check.NONE);
            Refusal.due("p but not q, a vector", vector, x -> x.assign(5, p, q, 0), Check.NONE);
            Refusal.due("q but not p, a vector", vector, x -> x.assign(5, q, p, 0), Check.NONE);
            Refusal.due("neither, a vector", vector, x -> x.assign(5, q, other, 0), Check.NONE);
            Refusal.due("p, a matrix", matrix, x -> x.assign(5, other, -1, 0), Check.NONE);
            Refusal.due("p but not q, a matrix", matrix, x -> x.assign(5, p, other, 0), Check.NONE);
            Refusal.due("q but not p, a matrix", matrix, x -> x.assign(5, other, q, 0), Check.NONE);
        }
    }

    // "an index has several lengths answers MISMATCH": one that is kept as well as one that is summed over
    private static void indexWithSeveralLengths() {
        for (int index = 0; index < 3; index++) {
            int p = index;
            int q = (index + 1) % 3;
            Refusal.Calls several = x -> {
                Refusal.busyWithNone(x);
                x.array(1, p, -1);
                x.array(3, q, p);
                x.join(2);
            };
            Refusal.due("several for p", several, x -> x.assign(2, p, -1, 0), Check.MISMATCH);
            Refusal.due("several for p, with q", several, x -> x.assign(2, p, q, 0), Check.MISMATCH);
            Refusal.due("several for q", several, x -> x.assign(2, q, p, 0), Check.MISMATCH);
            Refusal.due("several for the sum", several, x -> x.assign(2, q, -1, 0), Check.MISMATCH);
            Refusal.due("several for the whole sum", several, x -> x.assign(2, -1, -1, 0), Check.MISMATCH);
        }
    }

    // "Tested in this order": BAD_ARG, then TOO_FEW
    private static void badArgumentBeforeTooFew() {
        for (int w = 0; w < WRONG.length; w++) {
            Wrong wrong = WRONG[w];
            Refusal.due("wrong " + w + " and none", Refusal::busyWithNone, x -> wrong.on(x, 5), Check.BAD_ARG);
            Refusal.due("wrong " + w + " and two", Refusal::busy, x -> wrong.on(x, 5), Check.BAD_ARG);
        }
    }

    // "Tested in this order": BAD_ARG, before NONE
    private static void badArgumentBeforeNone() {
        for (int w = 0; w < WRONG.length; w++) {
            Wrong wrong = WRONG[w];
            String what = "wrong " + w + " and no index";
            Refusal.due(what, AssignBoundaryTest::constantOnly, x -> wrong.on(x, 5), Check.BAD_ARG);
        }
    }

    // "Tested in this order": BAD_ARG, before MISMATCH
    private static void badArgumentBeforeMismatch() {
        for (int w = 0; w < WRONG.length; w++) {
            Wrong wrong = WRONG[w];
            String what = "wrong " + w + " and several lengths";
            Refusal.due(what, AssignBoundaryTest::several, x -> wrong.on(x, 5), Check.BAD_ARG);
        }
    }

    // "Tested in this order": TOO_FEW, then NONE
    private static void tooFewBeforeNone() {
        for (int index = 0; index < 3; index++) {
            int p = index;
            int q = (index + 1) % 3;
            Refusal.due("none, p", Refusal::busyWithNone, x -> x.assign(5, p, -1, 0), Check.TOO_FEW);
            Refusal.due("none, p and q", Refusal::busyWithNone, x -> x.assign(5, p, q, 0), Check.TOO_FEW);
            Refusal.Calls two = x -> {
                constantOnly(x);
                x.constant(1);
            };
            Refusal.due("two, p", two, x -> x.assign(5, p, -1, 0), Check.TOO_FEW);
            Refusal.due("two, p and q", two, x -> x.assign(5, p, q, 0), Check.TOO_FEW);
        }
    }

    // "Tested in this order": TOO_FEW, before MISMATCH
    private static void tooFewBeforeMismatch() {
        Refusal.due("several on the top", AssignBoundaryTest::severalOnTwo, x -> x.assign(5, 1, -1, 0), Check.TOO_FEW);
        Refusal.due("several on the top, summed", AssignBoundaryTest::severalOnTwo, x -> x.assign(5, -1, -1, 0),
            Check.TOO_FEW);
        Refusal.due("several below", AssignBoundaryTest::severalBelow, x -> x.assign(5, 1, -1, 0), Check.TOO_FEW);
        Refusal.due("several below, summed", AssignBoundaryTest::severalBelow, x -> x.assign(5, -1, -1, 0),
            Check.TOO_FEW);
    }

    // "Tested in this order": NONE, then MISMATCH
    private static void noneBeforeMismatch() {
        Refusal.due("no p", AssignBoundaryTest::several, x -> x.assign(5, 0, -1, 0), Check.NONE);
        Refusal.due("no p, several for q", AssignBoundaryTest::several, x -> x.assign(5, 0, 1, 0), Check.NONE);
        Refusal.due("several for p, no q", AssignBoundaryTest::several, x -> x.assign(5, 1, 0, 0), Check.NONE);
        Refusal.due("one for p, no q", AssignBoundaryTest::several, x -> x.assign(5, 2, 0, 0), Check.NONE);
        Refusal.due("several last", AssignBoundaryTest::several, x -> x.assign(5, 2, -1, 0), Check.MISMATCH);
    }

    // "Otherwise the number of places that have room": from none to all
    private static void answersTheRoom() {
        SparseFormulas x = new SparseFormulas();
        x.make(0, 6, 6, 0);
        int[] rooms = {36, 0, 0, 0, 36, 0, 0, 0};
        for (int f = 0; f < 8; f++) {
            x.array(0, 0, 1);
            Check.due("assign 0s in format " + f, x.assign(1, 0, 1, f), rooms[f]);
            x.array(0, 0, 1);
            x.constant(1);
            x.join(0);
            Check.due("assign 1s in format " + f, x.assign(1, 0, 1, f), 36);
        }
        x.array(0, 0, 1);
        Check.due("assign a vector of 0s", x.assign(1, 1, -1, 1), 0);
        x.array(0, 0, 1);
        Check.due("assign the number 0", x.assign(1, -1, -1, 0), 1);
    }

    // "the stack is empty then": with no part, no array and no formula
    private static void stackIsEmptyThen() {
        SparseFormulas x = after(FormulasBoundaryTest::sixArrays);
        for (int part = 12; part <= 20; part++) {
            x.negate();
        }
        Check.due("20 parts with 6 arrays", x.assign(5, 0, -1, 1), 2);
        for (int p = 0; p < 3; p++) {
            Check.due("span after assign", x.span(p), Check.NONE);
        }
        Check.due("negate after assign", x.negate(), Check.TOO_FEW);
        Check.due("join after assign", x.join(2), Check.TOO_FEW);
        Check.due("assign after assign", x.assign(5, 0, -1, 1), Check.TOO_FEW);
        for (int n = 1; n <= 6; n++) {
            Check.due("array after assign", x.array(1, 0, -1), n);
        }
        for (int part = 7; part <= 20; part++) {
            Check.due("part after assign", x.negate(), 6);
        }
        Check.due("part 21 after assign", x.negate(), Check.FULL);
    }

    // "A refused call ... changes nothing": after each refusal the formula can still be assigned
    private static void refusedKeepsTheStack() {
        SparseFormulas x = after(FormulasBoundaryTest::sixArrays);
        Check.due("BAD_ARG", x.assign(5, 0, 0, 0), Check.BAD_ARG);
        Check.due("NONE", x.assign(5, 1, -1, 0), Check.NONE);
        x.constant(1);
        Check.due("TOO_FEW", x.assign(5, 0, -1, 0), Check.TOO_FEW);
        x.join(2);
        Check.due("still 6 arrays", x.array(1, 0, -1), Check.FULL);
        Check.due("the formula", x.assign(5, 0, -1, 0), 4);
        Check.due("its numbers", x.digest(5), 6 * (5 * 8 - 3 * 22));
    }
}
