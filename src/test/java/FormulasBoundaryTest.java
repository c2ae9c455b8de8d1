/** The boundary cases that promises 13 to 20 name, a method for each sentence or clause. */
public final class FormulasBoundaryTest {
    private static final int HIGH = Integer.MAX_VALUE;
    private static final int LOW = Integer.MIN_VALUE;
    private static final int[] NO_INDICES = {LOW, -3, -2, 3, 4, HIGH};

    public static void main(String[] args) {
        arrayAsItIsNow();
        arrayIndexOutOfRange();
        arrayIndexMissing();
        arrayIndexTooMany();
        arrayIndexTwice();
        arrayAsPart20And21();
        arrayAsArray6And7();
        arrayAsNumber6And7();
        arrayRefusedBeforeFull();
        constantAtTheEdges();
        constantTooSmallOrTooLarge();
        constantAsPart20And21();
        constantAsNumber6And7();
        constantAfterSixArrays();
        constantRefusedBeforeFull();
        negateTheTop();
        negateAsPart20And21();
        negateOfAnEmptyStack();
        negateOnAFullStack();
        joinOrderOfXAndY();
        joinOfNoOperation();
        joinAsPart20And21();
        joinOfFewerThanTwo();
        joinRefusalsInOrder();
        joinOnAFullStack();
        partsOfEveryKindCount();
        partsThatWereRefusedDoNotCount();
        scrapOfAnEmptyStack();
        scrapOfAFullStack();
        scrapLeavesTheRegisters();
        spanOnTheTopAlone();
        spanOfNoIndex();
        spanOfAnEmptyStack();
        spanOfSeveral();
        spanOutOfRangeFirst();
        Check.end();
    }

    /** 20 parts, none of them an array, one formula on the stack: 5 negated 19 times. */
    static void twentyParts(SparseFormulas x) {
        Refusal.busyWithNone(x);
        x.constant(5);
        for (int part = 2; part <= 20; part++) {
            x.negate();
        }
    }

    /** 20 parts with two formulas on the stack. */
    static void twentyPartsOfTwo(SparseFormulas x) {
        Refusal.busyWithNone(x);
        x.constant(5);
        x.array(1, 2, -1);
        for (int part = 3; part <= 20; part++) {
            x.negate();
        }
    }

    /** 6 arrays in 11 parts, one formula on the stack. */
    static void sixArrays(SparseFormulas x) {
        Refusal.busyWithNone(x);
        x.array(1, 0, -1);
        for (int n = 2; n <= 6; n++) {
            x.array(1, 0, -1);
            x.join(0);
        }
    }

    /** 6 formulas on the stack in 6 parts, none of them an array. */
    static void sixOnTheStack(SparseFormulas x) {
        Refusal.busyWithNone(x);
        for (int n = 1; n <= 6; n++) {
            x.constant(n);
        }
    }

    private static int total(SparseFormulas x) {
        Check.due("assign of a total", x.assign(5, -1, -1, 0), 1);
        return x.get(5, 0, 0);
    }

    private static SparseFormulas after(Refusal.Calls calls) {
        SparseFormulas x = new SparseFormulas();
        calls.on(x);
        return x;
    }

    // Promise 13: "Pushes the array of register r, as it is now"
    private static void arrayAsItIsNow() {
        SparseFormulas x = after(Refusal::busyWithNone);
        Check.due("push", x.array(2, 0, 1), 1);
        x.put(2, 0, 1, 100);
        x.turn(2);
        x.format(2, 1);
        Check.due("rows as they were", x.span(0), 2);
        Check.due("columns as they were", x.span(1), 3);
        Check.due("push it as it is then", x.array(2, 1, 0), 2);
        x.make(2, 0, 0, 0);
        Check.due("rows as they were then", x.span(1), 3);
        x.join(1);
        Check.due("assign to itself", x.assign(2, 0, 1, 0), 6);
        Check.due("4 less 100", x.get(2, 0, 1), -96);
        x.array(2, 0, 1);
        Check.due("numbers as they were", total(x), -96);
    }

    // Promise 13: "p or q is not -1 to 2 ... answers BAD_ARG"
    private static void arrayIndexOutOfRange() {
        for (int no : NO_INDICES) {
            Refusal.due("number, p " + no, Refusal::busy, x -> x.array(0, no, -1), Check.BAD_ARG);
            Refusal.due("number, q " + no, Refusal::busy, x -> x.array(0, -1, no), Check.BAD_ARG);
            Refusal.due("vector, p " + no, Refusal::busy, x -> x.array(1, no, -1), Check.BAD_ARG);
            Refusal.due("vector, q " + no, Refusal::busy, x -> x.array(1, 0, no), Check.BAD_ARG);
            Refusal.due("matrix, p " + no, Refusal::busy, x -> x.array(2, no, 0), Check.BAD_ARG);
            Refusal.due("matrix, q " + no, Refusal::busy, x -> x.array(2, 0, no), Check.BAD_ARG);
            Refusal.due("matrix, p and q " + no, Refusal::busy, x -> x.array(2, no, no), Check.BAD_ARG);
        }
    }

    // Promise 13: "is -1 where it is needed"
    private static void arrayIndexMissing() {
        Refusal.due("vector without p", Refusal::busy, x -> x.array(1, -1, -1), Check.BAD_ARG);
        Refusal.due("matrix without p and q", Refusal::busy, x -> x.array(2, -1, -1), Check.BAD_ARG);
        Refusal.due("matrix of one without p and q", x -> x.make(0, 1, 1, 0), x -> x.array(0, -1, -1), Check.BAD_ARG);
        Refusal.due("vector of one without p", x -> x.make(0, 1, 0, 0), x -> x.array(0, -1, -1), Check.BAD_ARG);
        for (int index = 0; index < 3; index++) {
            int p = index;
            Refusal.due("matrix without q", Refusal::busy, x -> x.array(2, p, -1), Check.BAD_ARG);
            Refusal.due("matrix without p", Refusal::busy, x -> x.array(2, -1, p), Check.BAD_ARG);
            Refusal.due("one column without q", x -> x.make(0, 6, 1, 0), x -> x.array(0, p, -1), Check.BAD_ARG);
        }
    }

    // Promise 13: "or not -1 where not"
    private static void arrayIndexTooMany() {
        for (int index = 0; index < 3; index++) {
            int p = index;
            Refusal.due("number with p", Refusal::busy, x -> x.array(0, p, -1), Check.BAD_ARG);
            Refusal.due("number with q", Refusal::busy, x -> x.array(0, -1, p), Check.BAD_ARG);
            Refusal.due("number with p and q", Refusal::busy, x -> x.array(0, p, (p + 1) % 3), Check.BAD_ARG);
            Refusal.due("vector with q alone", Refusal::busy, x -> x.array(1, -1, p), Check.BAD_ARG);
            Refusal.due("vector with p and q", Refusal::busy, x -> x.array(1, p, (p + 1) % 3), Check.BAD_ARG);
        }
    }

    // Promise 13: "or both are the same index"; -1 is no index, so a number has it twice
    private static void arrayIndexTwice() {
        for (int index = 0; index < 3; index++) {
            int p = index;
            Refusal.due("number with " + p + " twice", Refusal::busy, x -> x.array(0, p, p), Check.BAD_ARG);
            Refusal.due("vector with " + p + " twice", Refusal::busy, x -> x.array(1, p, p), Check.BAD_ARG);
            Refusal.due("matrix with " + p + " twice", Refusal::busy, x -> x.array(5, p, p), Check.BAD_ARG);
        }
        Check.due("number with -1 twice", after(Refusal::busy).array(0, -1, -1), 3);
    }

    // Promise 13: "20 parts were made since the stack was empty ... answers FULL"
    private static void arrayAsPart20And21() {
        SparseFormulas x = after(Refusal::busyWithNone);
        x.constant(5);
        for (int part = 2; part <= 19; part++) {
            x.negate();
        }
        Check.due("array as part 20", x.array(2, 0, 1), 2);
        Refusal.due("number as part 21", FormulasBoundaryTest::twentyParts, y -> y.array(0, -1, -1), Check.FULL);
        Refusal.due("vector as part 21", FormulasBoundaryTest::twentyParts, y -> y.array(1, 0, -1), Check.FULL);
        Refusal.due("matrix as part 21", FormulasBoundaryTest::twentyParts, y -> y.array(2, 2, 0), Check.FULL);
        SparseFormulas emptied = after(FormulasBoundaryTest::twentyParts);
        Check.due("the formula of 20 parts", total(emptied), -5);
        Check.due("array since the stack was empty", emptied.array(2, 2, 0), 1);
    }

    // Promise 13: "or 6 arrays": also when joins have taken them off
    private static void arrayAsArray6And7() {
        SparseFormulas x = after(Refusal::busyWithNone);
        x.array(1, 0, -1);
        for (int n = 2; n <= 6; n++) {
            Check.due("array number " + n, x.array(1, 0, -1), 2);
            x.join(0);
        }
        Refusal.due("number as array 7", FormulasBoundaryTest::sixArrays, y -> y.array(0, -1, -1), Check.FULL);
        Refusal.due("vector as array 7", FormulasBoundaryTest::sixArrays, y -> y.array(1, 0, -1), Check.FULL);
        Refusal.due("matrix as array 7", FormulasBoundaryTest::sixArrays, y -> y.array(5, 1, 2), Check.FULL);
        Check.due("the formula of 6 arrays", total(x), 12);
        Check.due("array since the stack was empty", x.array(1, 0, -1), 1);
        SparseFormulas scrapped = after(FormulasBoundaryTest::sixArrays);
        scrapped.scrap();
        for (int n = 1; n <= 6; n++) {
            Check.due("array since the scrap", scrapped.array(1, 0, -1), n);
        }
    }

    // Promise 13: "or it holds 6"
    private static void arrayAsNumber6And7() {
        SparseFormulas x = after(FormulasBoundaryTest::sixOnTheStack);
        Check.due("take one off", x.join(0), 5);
        Check.due("array as number 6", x.array(1, 0, -1), 6);
        Refusal.due("number as number 7", FormulasBoundaryTest::sixOnTheStack, y -> y.array(0, -1, -1), Check.FULL);
        Refusal.due("vector as number 7", FormulasBoundaryTest::sixOnTheStack, y -> y.array(1, 0, -1), Check.FULL);
        Refusal.due("matrix as number 7", FormulasBoundaryTest::sixOnTheStack, y -> y.array(2, 0, 1), Check.FULL);
    }

    // Promise 13: "Tested in this order": BAD_ARG before FULL, each of the one with each of the other
    private static void arrayRefusedBeforeFull() {
        Refusal.Calls[] full = {
            FormulasBoundaryTest::twentyParts, FormulasBoundaryTest::sixArrays, FormulasBoundaryTest::sixOnTheStack
        };
        for (Refusal.Calls state : full) {
            Refusal.due("full, register -1", state, x -> x.array(-1, -1, -1), Check.BAD_ARG);
            Refusal.due("full, register 6", state, x -> x.array(6, -1, -1), Check.BAD_ARG);
            Refusal.due("full, p too small", state, x -> x.array(1, -2, -1), Check.BAD_ARG);
            Refusal.due("full, p too large", state, x -> x.array(1, 3, -1), Check.BAD_ARG);
            Refusal.due("full, q too small", state, x -> x.array(2, 0, -2), Check.BAD_ARG);
            Refusal.due("full, q too large", state, x -> x.array(2, 0, 3), Check.BAD_ARG);
            Refusal.due("full, p missing", state, x -> x.array(1, -1, -1), Check.BAD_ARG);
            Refusal.due("full, q missing", state, x -> x.array(2, 0, -1), Check.BAD_ARG);
            Refusal.due("full, p too many", state, x -> x.array(0, 0, -1), Check.BAD_ARG);
            Refusal.due("full, q too many", state, x -> x.array(1, 0, 1), Check.BAD_ARG);
            Refusal.due("full, one index twice", state, x -> x.array(2, 1, 1), Check.BAD_ARG);
        }
    }

    // Promise 14: "Pushes a constant.", the least and the greatest of them
    private static void constantAtTheEdges() {
        for (int k : new int[] {-99, -98, -1, 0, 1, 98, 99}) {
            SparseFormulas x = new SparseFormulas();
            Check.due("constant " + k, x.constant(k), 1);
            Check.due("it has no index", x.span(0), Check.NONE);
            Check.due("its number", total(x), k);
        }
    }

    // Promise 14: "k not -99 to 99 answers BAD_ARG"
    private static void constantTooSmallOrTooLarge() {
        for (int k : new int[] {LOW, LOW + 1, -1000, -101, -100, 100, 101, 1000, HIGH}) {
            Refusal.due("constant " + k, Refusal::busy, x -> x.constant(k), Check.BAD_ARG);
            Refusal.due("constant " + k + " first", Refusal::busyWithNone, x -> x.constant(k), Check.BAD_ARG);
        }
    }

    // Promise 14: "20 parts ... answers FULL"
    private static void constantAsPart20And21() {
        SparseFormulas x = new SparseFormulas();
        x.constant(5);
        for (int part = 2; part <= 19; part++) {
            x.negate();
        }
        Check.due("constant as part 20", x.constant(1), 2);
        Refusal.due("constant as part 21", FormulasBoundaryTest::twentyParts, y -> y.constant(0), Check.FULL);
    }

    // Promise 14: "or it holds 6, answers FULL"
    private static void constantAsNumber6And7() {
        SparseFormulas x = new SparseFormulas();
        for (int n = 1; n <= 6; n++) {
            Check.due("constant as number " + n, x.constant(n), n);
        }
        Refusal.due("constant as number 7", FormulasBoundaryTest::sixOnTheStack, y -> y.constant(0), Check.FULL);
    }

    // Promise 14 has no limit of arrays.
    private static void constantAfterSixArrays() {
        SparseFormulas x = after(FormulasBoundaryTest::sixArrays);
        Check.due("constant after 6 arrays", x.constant(9), 2);
        x.join(2);
        Check.due("9 times the sum", total(x), 108);
    }

    // Promise 14: "Tested in this order"
    private static void constantRefusedBeforeFull() {
        for (int k = -100; k <= 100; k += 200) {
            int no = k;
            Refusal.due("20 parts, " + k, FormulasBoundaryTest::twentyParts, x -> x.constant(no), Check.BAD_ARG);
            Refusal.due("holds 6, " + k, FormulasBoundaryTest::sixOnTheStack, x -> x.constant(no), Check.BAD_ARG);
        }
    }

    // Promise 15: "Puts 0 - X in place of the top X."
    private static void negateTheTop() {
        SparseFormulas x = after(Refusal::busy);
        Check.due("negate of two", x.negate(), 2);
        Check.due("its rows", x.span(1), 2);
        Check.due("its columns", x.span(2), 3);
        Check.due("its other index", x.span(0), Check.NONE);
        x.join(0);
        Check.due("the one below is not negated", total(x), 2 * 6 - 4 * 4);
        int[] numbers = {0, 1, -1, HIGH, LOW, LOW + 1};
        int[] negated = {0, -1, 1, -HIGH, LOW, HIGH};
        for (int n = 0; n < numbers.length; n++) {
            x.put(0, 0, 0, numbers[n]);
            x.array(0, -1, -1);
            x.negate();
            Check.due("0 - " + numbers[n], total(x), negated[n]);
        }
    }

    // Promise 15: "20 parts answers FULL"
    private static void negateAsPart20And21() {
        SparseFormulas x = new SparseFormulas();
        x.constant(5);
        for (int part = 2; part <= 20; part++) {
            Check.due("negate as part " + part, x.negate(), 1);
        }
        Refusal.due("negate as part 21", FormulasBoundaryTest::twentyParts, SparseFormulas::negate, Check.FULL);
        Refusal.due("part 21 of two", FormulasBoundaryTest::twentyPartsOfTwo, SparseFormulas::negate, Check.FULL);
        Check.due("the 20 parts", total(x), -5);
    }

    // Promise 15: "TOO_FEW if it is empty." The count starts anew there, so 20 parts never meet an empty stack.
    private static void negateOfAnEmptyStack() {
        Refusal.due("negate on a new object", x -> { }, SparseFormulas::negate, Check.TOO_FEW);
        Refusal.due("negate after scrap", Refusal::busyWithNone, SparseFormulas::negate, Check.TOO_FEW);
        SparseFormulas scrapped = after(FormulasBoundaryTest::twentyParts);
        scrapped.scrap();
        Check.due("negate after scrap of 20 parts", scrapped.negate(), Check.TOO_FEW);
        SparseFormulas assigned = after(FormulasBoundaryTest::twentyParts);
        assigned.assign(0, -1, -1, 0);
        Check.due("negate after assign of 20 parts", assigned.negate(), Check.TOO_FEW);
    }

    // Promise 15 has no limit of what the stack holds, nor of arrays.
    private static void negateOnAFullStack() {
        Check.due("negate of six", after(FormulasBoundaryTest::sixOnTheStack).negate(), 6);
        Check.due("negate of 6 arrays", after(FormulasBoundaryTest::sixArrays).negate(), 1);
    }

    // Promise 16: "Takes X and Y off (Y the top) and pushes X + Y (op 0), X - Y (1) or X * Y (2)."
    private static void joinOrderOfXAndY() {
        int[] due = {17, 7, 60};
        for (int op = 0; op < 3; op++) {
            SparseFormulas x = new SparseFormulas();
            x.constant(99);
            x.constant(12);
            x.constant(5);
            Check.due("join " + op, x.join(op), 2);
            x.join(1);
            Check.due("99 less join " + op, total(x), 99 - due[op]);
        }
    }

    // Promise 16: "op not 0 to 2 answers BAD_ARG"
    private static void joinOfNoOperation() {
        for (int op : new int[] {LOW, -2, -1, 3, 4, 5, 6, HIGH}) {
            Refusal.due("join " + op, Refusal::busy, x -> x.join(op), Check.BAD_ARG);
        }
    }

    // Promise 16: "20 parts answers FULL"
    private static void joinAsPart20And21() {
        for (int op = 0; op < 3; op++) {
            int operation = op;
            SparseFormulas x = new SparseFormulas();
            x.constant(7);
            x.constant(3);
            for (int part = 3; part <= 19; part++) {
                x.negate();
            }
            Check.due("join as part 20", x.join(op), 1);
            Check.due("the 20 parts", total(x), op == 0 ? 4 : op == 1 ? 10 : -21);
            Refusal.due("join as part 21", FormulasBoundaryTest::twentyPartsOfTwo, y -> y.join(operation), Check.FULL);
        }
    }

    // Promise 16: "fewer than two answers TOO_FEW"
    private static void joinOfFewerThanTwo() {
        for (int op = 0; op < 3; op++) {
            int operation = op;
            Refusal.due("join on a new object", x -> { }, x -> x.join(operation), Check.TOO_FEW);
            Refusal.due("join of none", Refusal::busyWithNone, x -> x.join(operation), Check.TOO_FEW);
            Refusal.due("join of one", Refusal::busyWithOne, x -> x.join(operation), Check.TOO_FEW);
            Check.due("join of two", after(Refusal::busy).join(op), 1);
        }
    }

    // Promise 16: "Tested in this order"
    private static void joinRefusalsInOrder() {
        for (int op = -1; op <= 3; op += 4) {
            int no = op;
            Refusal.due("20 parts, two", FormulasBoundaryTest::twentyPartsOfTwo, x -> x.join(no), Check.BAD_ARG);
            Refusal.due("20 parts, one", FormulasBoundaryTest::twentyParts, x -> x.join(no), Check.BAD_ARG);
            Refusal.due("no operation, none", Refusal::busyWithNone, x -> x.join(no), Check.BAD_ARG);
            Refusal.due("no operation, one", Refusal::busyWithOne, x -> x.join(no), Check.BAD_ARG);
        }
        Refusal.due("20 parts and only one", FormulasBoundaryTest::twentyParts, x -> x.join(0), Check.FULL);
    }

    // Promise 16 has no limit of what the stack holds, nor of arrays.
    private static void joinOnAFullStack() {
        SparseFormulas x = after(FormulasBoundaryTest::sixOnTheStack);
        for (int left = 5; left >= 1; left--) {
            Check.due("join down to " + left, x.join(0), left);
        }
        Check.due("the sum of six", total(x), 21);
        SparseFormulas y = after(FormulasBoundaryTest::sixArrays);
        y.constant(2);
        Check.due("join after 6 arrays", y.join(2), 1);
        Check.due("twice the arrays", total(y), 24);
    }

    // Promise 13: "20 parts were made": an array, a constant, a negation and a join are a part each
    private static void partsOfEveryKindCount() {
        SparseFormulas x = after(Refusal::busyWithNone);
        for (int round = 0; round < 3; round++) {
            x.array(1, 0, -1);
            x.constant(2);
            x.join(2);
            for (int part = 4; part <= 19; part += 4) {
                Check.due("negate", x.negate(), 1);
                Check.due("array", x.array(1, 0, -1), 2);
                Check.due("negate", x.negate(), 2);
                Check.due("join", x.join(0), 1);
            }
            Check.due("part 20", x.negate(), 1);
            Check.due("part 21", x.negate(), Check.FULL);
            // Twice the array becomes -3, 2, -3, 2 and at last -2 times it, and its total is 2.
            Check.due("the formula of 20 parts", total(x), -4);
        }
    }

    // "A refused call ... changes nothing": the count of parts and of arrays neither
    private static void partsThatWereRefusedDoNotCount() {
        SparseFormulas x = after(Refusal::busyWithNone);
        x.constant(1);
        for (int n = 0; n < 30; n++) {
            x.constant(100);
            x.array(1, 3, -1);
            x.array(1, -1, -1);
            x.join(3);
            x.join(0);
            x.span(0);
            x.span(3);
            x.assign(0, 0, -1, 0);
            x.assign(0, 0, 0, 0);
        }
        for (int n = 2; n <= 6; n++) {
            Check.due("array after refusals", x.array(1, 0, -1), n);
        }
        Check.due("seventh after refusals", x.array(1, 0, -1), Check.FULL);
        Check.due("join after refusals", x.join(0), 5);
        Check.due("array 6 after refusals", x.array(1, 0, -1), 6);
        for (int part = 9; part <= 20; part++) {
            Check.due("part " + part + " after refusals", x.negate(), 6);
        }
        Check.due("part 21 after refusals", x.negate(), Check.FULL);
    }

    // Promise 17: "Empties the stack.", also one that is empty
    private static void scrapOfAnEmptyStack() {
        SparseFormulas x = new SparseFormulas();
        x.scrap();
        x.scrap();
        Check.due("negate after scrap", x.negate(), Check.TOO_FEW);
        Check.due("constant after scrap", x.constant(4), 1);
        Check.due("its number", total(x), 4);
    }

    // Promise 17: "Empties the stack.", from every limit
    private static void scrapOfAFullStack() {
        Refusal.Calls[] full = {
            FormulasBoundaryTest::twentyParts, FormulasBoundaryTest::twentyPartsOfTwo, FormulasBoundaryTest::sixArrays,
            FormulasBoundaryTest::sixOnTheStack
        };
        for (Refusal.Calls state : full) {
            SparseFormulas x = after(state);
            x.scrap();
            Check.due("span after scrap", x.span(0), Check.NONE);
            Check.due("negate after scrap", x.negate(), Check.TOO_FEW);
            Check.due("join after scrap", x.join(0), Check.TOO_FEW);
            Check.due("assign after scrap", x.assign(0, -1, -1, 0), Check.TOO_FEW);
            for (int n = 1; n <= 6; n++) {
                Check.due("array after scrap", x.array(1, 0, -1), n);
            }
            for (int part = 7; part <= 20; part++) {
                Check.due("part after scrap", x.negate(), 6);
            }
            Check.due("part 21 after scrap", x.negate(), Check.FULL);
        }
    }

    // Promise 17 speaks of the stack alone.
    private static void scrapLeavesTheRegisters() {
        SparseFormulas x = after(Refusal::busy);
        x.scrap();
        int[] digests = {7, 5 * 8 - 3 * 22, 4 * 2, -16, 8 * 36, 2 * 6 + 3 * 36};
        int[] rooms = {1, 2, 3, 3, 6, 2};
        for (int r = 0; r < 6; r++) {
            Check.due("digest after scrap", x.digest(r), digests[r]);
            Check.due("room after scrap", x.room(r), rooms[r]);
        }
    }

    // Promise 18: "The length of index p in the formula on the top"
    private static void spanOnTheTopAlone() {
        SparseFormulas x = after(Refusal::busy);
        Check.due("index 1 on the top", x.span(1), 2);
        Check.due("index 2 on the top", x.span(2), 3);
        Check.due("index 0 below the top", x.span(0), Check.NONE);
        x.array(4, 1, -1);
        Check.due("index 1 on the new top", x.span(1), 6);
        Check.due("index 2 below the new top", x.span(2), Check.NONE);
        x.make(5, 1, 0, 0);
        x.array(5, 0, -1);
        Check.due("the least length", x.span(0), 1);
        x.join(2);
        Check.due("index 0 of the join", x.span(0), 1);
        Check.due("index 1 of the join", x.span(1), 6);
        Check.due("index 2 not in the join", x.span(2), Check.NONE);
    }

    // Promise 18: "NONE if it does not stand in it"
    private static void spanOfNoIndex() {
        for (int index = 0; index < 3; index++) {
            int p = index;
            Refusal.due("span of a constant", x -> x.constant(9), x -> x.span(p), Check.NONE);
            Refusal.due("span of a number", x -> x.array(0, -1, -1), x -> x.span(p), Check.NONE);
            Refusal.due("span of an index that the matrix has not", x -> {
                x.make(0, 2, 3, 0);
                x.array(0, (p + 1) % 3, (p + 2) % 3);
            }, x -> x.span(p), Check.NONE);
        }
    }

    // Promise 18: "(or there is none)"
    private static void spanOfAnEmptyStack() {
        for (int index = 0; index < 3; index++) {
            int p = index;
            Refusal.due("span on a new object", x -> { }, x -> x.span(p), Check.NONE);
            Refusal.due("span after scrap", Refusal::busyWithNone, x -> x.span(p), Check.NONE);
            Refusal.due("span after assign", x -> {
                Refusal.busyWithOne(x);
                x.assign(0, -1, -1, 0);
            }, x -> x.span(p), Check.NONE);
        }
    }

    // Promise 18: "MISMATCH if it has several": in whatever order they come, and for good
    private static void spanOfSeveral() {
        for (int index = 0; index < 3; index++) {
            for (int order = 0; order < 2; order++) {
                int p = index;
                int first = order == 0 ? 1 : 4;
                Refusal.Calls several = x -> {
                    Refusal.busyWithNone(x);
                    x.array(first, p, -1);
                    x.array(5 - first, p, -1);
                    x.join(0);
                };
                Refusal.due("span of several", several, x -> x.span(p), Check.MISMATCH);
                Refusal.due("span of another index", several, x -> x.span((p + 1) % 3), Check.NONE);
                SparseFormulas x = after(several);
                x.negate();
                Check.due("several, negated", x.span(p), Check.MISMATCH);
                x.constant(0);
                x.join(2);
                Check.due("several, times 0", x.span(p), Check.MISMATCH);
                x.array(first, p, -1);
                Check.due("one length on the top", x.span(p), first == 1 ? 4 : 6);
                x.join(1);
                Check.due("several and one of them", x.span(p), Check.MISMATCH);
                x.array(first, p, -1);
                x.array(5 - first, p, -1);
                x.join(2);
                x.join(1);
                Check.due("several and several", x.span(p), Check.MISMATCH);
            }
        }
    }

    // Promises 18 and 20: "BAD_ARG if p is not 0 to 2.", "span: BAD_ARG is tested first."
    private static void spanOutOfRangeFirst() {
        for (int p : new int[] {LOW, -3, -2, -1, 3, 4, HIGH}) {
            Refusal.due("span " + p + " of none", Refusal::busyWithNone, x -> x.span(p), Check.BAD_ARG);
            Refusal.due("span " + p + " of a constant", x -> x.constant(1), x -> x.span(p), Check.BAD_ARG);
            Refusal.due("span " + p + " of two", Refusal::busy, x -> x.span(p), Check.BAD_ARG);
            Refusal.due("span " + p + " of several", x -> {
                Refusal.busyWithNone(x);
                x.array(1, 0, -1);
                x.array(4, 0, -1);
                x.join(0);
            }, x -> x.span(p), Check.BAD_ARG);
        }
    }
}
