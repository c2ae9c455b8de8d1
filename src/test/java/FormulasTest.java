/** Promises 13 to 20: formulas on the stack, and arrays made from them. */
public final class FormulasTest {
    public static void main(String[] args) {
        arrayIndices();
        arrayAsItWas();
        arrayLimits();
        arrayOrder();
        constants();
        constantLimits();
        negations();
        negateLimits();
        joins();
        joinLimits();
        refusedPartsDoNotCount();
        scrapped();
        spans();
        lengthsOfOne();
        severalLengthsOfEachIndex();
        assignRanks();
        assignSums();
        assignOntoItself();
        assignRefusals();
        assignOrder();
        assignFormats();
        assignEmptiesTheStack();
        Check.end();
    }

    /** Register 0: the number 3; 1: the vector 1 -2 4; 2: 3 rows, 2 columns, 1 0 / 0 5 / -6 7; 3: a vector of 4. */
    private static SparseFormulas arrays() {
        SparseFormulas x = new SparseFormulas();
        x.put(0, 0, 0, 3);
        x.make(1, 3, 0, 1);
        x.put(1, 0, 0, 1);
        x.put(1, 1, 0, -2);
        x.put(1, 2, 0, 4);
        x.make(2, 3, 2, 3);
        x.put(2, 0, 0, 1);
        x.put(2, 1, 1, 5);
        x.put(2, 2, 0, -6);
        x.put(2, 2, 1, 7);
        x.make(3, 4, 0, 0);
        return x;
    }

    /** Assigns the one formula, which has no index that is kept, to register 5 and answers its number. */
    private static int total(SparseFormulas x) {
        Check.due("assign of a total", x.assign(5, -1, -1, 0), 1);
        return x.get(5, 0, 0);
    }

    private static void arrayIndices() {
        SparseFormulas x = arrays();
        for (int p = -3; p <= 4; p++) {
            for (int q = -3; q <= 4; q++) {
                boolean isP = p >= 0 && p <= 2;
                boolean isQ = q >= 0 && q <= 2;
                String at = " " + p + " " + q;
                x.scrap();
                Check.due("array of a number" + at, x.array(0, p, q), p == -1 && q == -1 ? 1 : Check.BAD_ARG);
                x.scrap();
                Check.due("array of a vector" + at, x.array(1, p, q), isP && q == -1 ? 1 : Check.BAD_ARG);
                x.scrap();
                Check.due("array of a matrix" + at, x.array(2, p, q), isP && isQ && p != q ? 1 : Check.BAD_ARG);
            }
        }
        x.scrap();
        for (int far : Check.FAR) {
            Check.due("array with a far index", x.array(1, far, -1), Check.BAD_ARG);
            Check.due("array with a far second index", x.array(2, 0, far), Check.BAD_ARG);
            Check.due("array of no register", x.array(far, -1, -1), Check.BAD_ARG);
        }
        Check.due("array of register -1", x.array(-1, -1, -1), Check.BAD_ARG);
        Check.due("array of register 6", x.array(6, -1, -1), Check.BAD_ARG);
        Check.due("nothing was pushed", x.negate(), Check.TOO_FEW);
    }

    private static void arrayAsItWas() {
        SparseFormulas x = arrays();
        x.array(1, 0, -1);
        x.put(1, 0, 0, 100);
        x.array(1, 0, -1);
        x.make(1, 5, 5, 0);
        x.join(1);
        Check.due("span as it was", x.span(0), 3);
        Check.due("assign of what was", x.assign(1, 0, -1, 1), 1);
        Check.due("number of what was", x.get(1, 0, 0), 1 - 100);
        x.array(2, 0, 1);
        x.turn(2);
        Check.due("turned after it was pushed", x.span(0), 3);
        Check.due("assign of what was not turned", x.assign(4, 1, 0, 0), 6);
        Check.due("turned both ways", x.same(4, 2), true);
    }

    private static void arrayLimits() {
        SparseFormulas x = arrays();
        for (int n = 1; n <= 6; n++) {
            Check.due("array " + n, x.array(0, -1, -1), n);
        }
        Check.due("a seventh on the stack", x.array(0, -1, -1), Check.FULL);
        Check.due("join of six", x.join(0), 5);
        Check.due("a seventh array since it was empty", x.array(0, -1, -1), Check.FULL);
        Check.due("a constant is no array", x.constant(1), 6);
        x.scrap();
        for (int n = 1; n <= 6; n++) {
            x.constant(n);
        }
        Check.due("an array on six constants", x.array(0, -1, -1), Check.FULL);
        x.join(0);
        Check.due("an array on five", x.array(0, -1, -1), 6);
        x.scrap();
        x.constant(1);
        for (int n = 2; n <= 19; n++) {
            x.negate();
        }
        Check.due("an array as part 20", x.array(0, -1, -1), 2);
        x.scrap();
        x.constant(1);
        for (int n = 2; n <= 20; n++) {
            x.negate();
        }
        Check.due("an array as part 21", x.array(0, -1, -1), Check.FULL);
        total(x);
        Check.due("an array after assign", x.array(0, -1, -1), 1);
    }

    private static void arrayOrder() {
        SparseFormulas x = arrays();
        for (int n = 1; n <= 6; n++) {
            x.array(0, -1, -1);
        }
        Check.due("full and no register", x.array(6, -1, -1), Check.BAD_ARG);
        Check.due("full and index 3", x.array(1, 3, -1), Check.BAD_ARG);
        Check.due("full and an index too few", x.array(2, 0, -1), Check.BAD_ARG);
        Check.due("full and an index too many", x.array(0, 0, -1), Check.BAD_ARG);
        Check.due("full and one index twice", x.array(2, 1, 1), Check.BAD_ARG);
        Check.due("full and a constant too large", x.constant(100), Check.BAD_ARG);
    }

    private static void constants() {
        for (int k = -103; k <= 103; k++) {
            SparseFormulas x = new SparseFormulas();
            boolean fine = k >= -99 && k <= 99;
            Check.due("constant " + k, x.constant(k), fine ? 1 : Check.BAD_ARG);
            if (fine) {
                Check.due("number of constant " + k, total(x), k);
            }
            Check.due("stack after constant " + k, x.negate(), Check.TOO_FEW);
        }
        SparseFormulas x = new SparseFormulas();
        Check.due("the least constant", x.constant(Integer.MIN_VALUE), Check.BAD_ARG);
        Check.due("the greatest constant", x.constant(Integer.MAX_VALUE), Check.BAD_ARG);
    }

    private static void constantLimits() {
        SparseFormulas x = new SparseFormulas();
        for (int n = 1; n <= 6; n++) {
            Check.due("constant number " + n, x.constant(0), n);
        }
        Check.due("constant on six", x.constant(0), Check.FULL);
        Check.due("six after the refusal", x.join(0), 5);
        Check.due("constant on five", x.constant(0), 6);
        x.scrap();
        x.constant(7);
        for (int n = 2; n <= 19; n++) {
            x.negate();
        }
        Check.due("constant as part 20", x.constant(0), 2);
        Check.due("constant as part 21", x.constant(0), Check.FULL);
        Check.due("21 parts and too large", x.constant(-100), Check.BAD_ARG);
    }

    private static void negations() {
        SparseFormulas x = arrays();
        x.constant(8);
        Check.due("negate", x.negate(), 1);
        x.constant(3);
        Check.due("negate the top", x.negate(), 2);
        x.join(1);
        Check.due("-8 - -3", total(x), -5);
        x.array(2, 1, 2);
        x.negate();
        Check.due("negate keeps indices", x.span(1), 3);
        Check.due("negate an array", total(x), -7);
        x.put(0, 0, 0, Integer.MIN_VALUE);
        x.array(0, -1, -1);
        x.negate();
        Check.due("negate wraps", total(x), Integer.MIN_VALUE);
    }

    private static void negateLimits() {
        SparseFormulas x = new SparseFormulas();
        Check.due("negate nothing", x.negate(), Check.TOO_FEW);
        x.constant(5);
        for (int n = 2; n <= 20; n++) {
            Check.due("negate as part " + n, x.negate(), 1);
        }
        Check.due("negate as part 21", x.negate(), Check.FULL);
        Check.due("negated 19 times", total(x), -5);
        Check.due("negate after assign", x.negate(), Check.TOO_FEW);
    }

    private static void joins() {
        int[] due = {12 + 5, 12 - 5, 12 * 5};
        for (int op = 0; op < 3; op++) {
            SparseFormulas x = new SparseFormulas();
            x.constant(40);
            x.constant(12);
            x.constant(5);
            Check.due("join " + op, x.join(op), 2);
            Check.due("join to the last", x.join(1), 1);
            Check.due("40 less join " + op, total(x), 40 - due[op]);
        }
        SparseFormulas x = new SparseFormulas();
        x.put(0, 0, 0, Integer.MAX_VALUE);
        for (int op = 0; op < 3; op++) {
            x.array(0, -1, -1);
            x.array(0, -1, -1);
            x.negate();
            x.join(op);
            int want = op == 0 ? 0 : op == 1 ? -2 : -1;
            Check.due("join " + op + " wraps", total(x), want);
        }
    }

    private static void joinLimits() {
        SparseFormulas x = new SparseFormulas();
        Check.due("join of none", x.join(0), Check.TOO_FEW);
        x.constant(1);
        for (int op = 0; op < 3; op++) {
            Check.due("join of one", x.join(op), Check.TOO_FEW);
        }
        for (int op : new int[] {Integer.MIN_VALUE, -1, 3, 4, 5, Integer.MAX_VALUE}) {
            Check.due("join of one with op " + op, x.join(op), Check.BAD_ARG);
        }
        x.constant(1);
        for (int n = 3; n <= 19; n++) {
            x.negate();
        }
        Check.due("join as part 20", x.join(0), 1);
        Check.due("join as part 21 of one", x.join(0), Check.FULL);
        Check.due("join as part 21 with op 3", x.join(3), Check.BAD_ARG);
        x.scrap();
        x.constant(1);
        x.constant(1);
        for (int n = 3; n <= 20; n++) {
            x.negate();
        }
        Check.due("join as part 21 of two", x.join(0), Check.FULL);
        Check.due("assign of two", x.assign(0, -1, -1, 0), Check.TOO_FEW);
    }

    private static void refusedPartsDoNotCount() {
        SparseFormulas x = arrays();
        for (int n = 0; n < 30; n++) {
            x.negate();
            x.join(0);
            x.join(-1);
            x.constant(100);
            x.array(1, 0, 0);
            x.array(9, -1, -1);
            x.assign(0, -1, -1, 0);
        }
        x.constant(4);
        for (int n = 2; n <= 20; n++) {
            Check.due("part " + n, x.negate(), 1);
        }
        x.negate();
        x.array(1, 0, -1);
        Check.due("full parts left the formula", total(x), -4);
    }

    private static void scrapped() {
        SparseFormulas x = arrays();
        x.scrap();
        x.array(1, 0, -1);
        x.array(2, 0, 1);
        x.scrap();
        Check.due("span after scrap", x.span(0), Check.NONE);
        Check.due("negate after scrap", x.negate(), Check.TOO_FEW);
        Check.due("assign after scrap", x.assign(0, -1, -1, 0), Check.TOO_FEW);
        Check.due("register after scrap", x.get(0, 0, 0), 3);
        for (int round = 0; round < 3; round++) {
            for (int n = 1; n <= 6; n++) {
                Check.due("array after scrap", x.array(0, -1, -1), n);
            }
            for (int n = 7; n <= 20; n++) {
                Check.due("part after scrap", x.negate(), 6);
            }
            Check.due("part 21 after scrap", x.negate(), Check.FULL);
            x.scrap();
        }
        x.constant(1);
        Check.due("a constant has no index of what was", x.span(0), Check.NONE);
    }

    private static void spans() {
        SparseFormulas x = arrays();
        for (int p : new int[] {Integer.MIN_VALUE, -1, 3, Integer.MAX_VALUE}) {
            Check.due("span on nothing, index " + p, x.span(p), Check.BAD_ARG);
        }
        Check.due("span on nothing", x.span(2), Check.NONE);
        x.array(2, 2, 0);
        Check.due("span of the rows", x.span(2), 3);
        Check.due("span of the columns", x.span(0), 2);
        Check.due("span of an index that is not there", x.span(1), Check.NONE);
        Check.due("span 3", x.span(3), Check.BAD_ARG);
        x.array(3, 1, -1);
        Check.due("span looks at the top", x.span(1), 4);
        Check.due("span looks only at the top", x.span(2), Check.NONE);
        x.array(1, 1, -1);
        x.join(2);
        Check.due("several lengths", x.span(1), Check.MISMATCH);
        x.array(1, 1, -1);
        x.join(0);
        Check.due("still several lengths", x.span(1), Check.MISMATCH);
        x.constant(0);
        x.join(2);
        Check.due("several lengths times 0", x.span(1), Check.MISMATCH);
        x.join(0);
        Check.due("the lengths of both sides: 0", x.span(0), 2);
        Check.due("the lengths of both sides: 1", x.span(1), Check.MISMATCH);
        Check.due("the lengths of both sides: 2", x.span(2), 3);
        x.constant(1);
        Check.due("span of a constant", x.span(2), Check.NONE);
        x.scrap();
        x.array(1, 0, -1);
        x.array(1, 0, -1);
        x.join(0);
        Check.due("one length twice", x.span(0), 3);
    }

    private static void lengthsOfOne() {
        SparseFormulas x = new SparseFormulas();
        x.make(1, 1, 0, 0);
        x.put(1, 0, 0, 6);
        x.make(2, 1, 1, 0);
        x.put(2, 0, 0, 7);
        x.array(1, 1, -1);
        Check.due("length 1 is a length", x.span(1), 1);
        Check.due("a vector of one", x.assign(3, 1, -1, 0), 1);
        Check.due("the same vector of one", x.same(1, 3), true);
        x.array(2, 2, 0);
        Check.due("a matrix of one", x.assign(3, 0, 2, 0), 1);
        Check.due("the same matrix of one", x.same(2, 3), true);
        x.make(4, 2, 0, 0);
        x.array(1, 1, -1);
        x.array(4, 1, -1);
        x.join(0);
        Check.due("lengths 1 and 2", x.span(1), Check.MISMATCH);
        Check.due("lengths 1 and 2 are not stretched", x.assign(3, 1, -1, 0), Check.MISMATCH);
    }

    private static void severalLengthsOfEachIndex() {
        for (int index = 0; index < 3; index++) {
            SparseFormulas x = arrays();
            int other = (index + 1) % 3;
            x.array(1, index, -1);
            x.array(2, other, index);
            x.join(2);
            Check.due("rows and columns differ", x.span(index), Check.MISMATCH);
            Check.due("the other index has one length", x.span(other), 3);
            Check.due("several, summed", x.assign(4, other, -1, 0), Check.MISMATCH);
            Check.due("several, kept", x.assign(4, index, -1, 0), Check.MISMATCH);
            Check.due("several, kept second", x.assign(4, other, index, 0), Check.MISMATCH);
            Check.due("several, all summed", x.assign(4, -1, -1, 0), Check.MISMATCH);
        }
    }

    private static void assignRanks() {
        SparseFormulas x = arrays();
        x.array(2, 0, 1);
        Check.due("assign rank 2", x.assign(4, 0, 1, 0), 6);
        Check.due("the same matrix", x.same(2, 4), true);
        x.array(2, 0, 1);
        Check.due("assign turned", x.assign(4, 1, 0, 0), 6);
        Check.due("rows turned", x.length(4, 0), 2);
        Check.due("columns turned", x.length(4, 1), 3);
        Check.due("numbers turned", x.digest(4), 1 + 5 * 9 - 6 * 3 + 7 * 10);
        x.array(2, 0, 1);
        Check.due("assign row sums", x.assign(4, 0, -1, 0), 3);
        Check.due("row sums", x.digest(4), 1 + 5 * 8 + 15);
        Check.due("row sums are a vector", x.turn(4), Check.NONE);
        Check.due("row sums in one column", x.length(4, 1), 1);
        x.array(2, 0, 1);
        Check.due("assign column sums", x.assign(4, 1, -1, 1), 2);
        Check.due("column sums", x.digest(4), -5 + 12 * 8);
        x.array(2, 0, 1);
        Check.due("assign the sum", x.assign(4, -1, -1, 0), 1);
        Check.due("the sum", x.get(4, 0, 0), 7);
        Check.due("the sum is a number", x.get(4, 1, 0), Check.NONE);
        Check.due("the sum is in one row", x.length(4, 0), 1);
        Check.due("the sum is in one column", x.length(4, 1), 1);
    }

    private static void assignSums() {
        SparseFormulas x = arrays();
        x.array(2, 0, 1);
        x.array(1, 0, -1);
        x.join(0);
        Check.due("a vector is added in each column", total(x), 7 + 2 * 3);
        x.array(1, 2, -1);
        x.constant(10);
        x.join(0);
        Check.due("a constant is added for each number", total(x), 3 + 30);
        x.array(1, 0, -1);
        x.constant(0);
        x.join(2);
        x.constant(1);
        x.join(0);
        Check.due("times 0 still stands there", x.assign(4, 0, -1, 1), 3);
        x.array(2, 0, 1);
        x.array(2, 2, 1);
        x.join(2);
        Check.due("a matrix times itself turned", x.assign(4, 0, 2, 1), 7);
        Check.due("its numbers", x.digest(4), 1 + 25 * 9 + 85 * 17 - 6 * (3 + 15) + 35 * (10 + 16));
        x.make(4, 6, 6, 0);
        x.make(0, 6, 0, 0);
        x.put(0, 0, 0, 1 << 30);
        x.put(0, 5, 0, 3);
        x.array(4, 0, 1);
        x.array(0, 2, -1);
        x.join(0);
        Check.due("216 values", total(x), 36 * 3);
    }

    private static void assignOntoItself() {
        SparseFormulas x = arrays();
        x.array(2, 0, 1);
        x.array(2, 0, 1);
        x.join(0);
        Check.due("assign onto itself", x.assign(2, 1, 0, 1), 4);
        Check.due("itself doubled and turned", x.digest(2), 2 * (1 + 5 * 9 - 6 * 3 + 7 * 10));
        Check.due("the other registers stay", x.digest(1), 1 - 2 * 8 + 4 * 15);
    }

    private static void assignRefusals() {
        SparseFormulas x = arrays();
        x.array(2, 0, 1);
        for (int p = -3; p <= 4; p++) {
            for (int q = -3; q <= 4; q++) {
                boolean range = p >= -1 && p <= 2 && q >= -1 && q <= 2;
                boolean wrong = !range || (p == -1 && q != -1) || (p == q && p != -1);
                boolean none = p == 2 || q == 2;
                String at = "assign to " + p + " " + q;
                Check.due(at, wrong || none ? x.assign(4, p, q, 0) : 0, wrong ? Check.BAD_ARG : none ? Check.NONE : 0);
            }
        }
        for (int far : Check.FAR) {
            Check.due("assign with far p", x.assign(4, far, -1, 0), Check.BAD_ARG);
            Check.due("assign with far q", x.assign(4, 0, far, 0), Check.BAD_ARG);
            Check.due("assign with far format", x.assign(4, 0, 1, far), Check.BAD_ARG);
            Check.due("assign to a far register", x.assign(far, 0, 1, 0), Check.BAD_ARG);
        }
        Check.due("assign to register -1", x.assign(-1, 0, 1, 0), Check.BAD_ARG);
        Check.due("assign to register 6", x.assign(6, 0, 1, 0), Check.BAD_ARG);
        Check.due("nothing was assigned", x.get(4, 0, 0) + x.length(4, 0), 1);
        Check.due("the formula still stands", x.span(0), 3);
        x.constant(1);
        Check.due("assign of two", x.assign(4, 0, 1, 0), Check.TOO_FEW);
        x.join(0);
        x.array(3, 2, -1);
        x.array(1, 2, -1);
        x.join(2);
        x.join(0);
        Check.due("a summed index has several lengths", x.assign(4, 0, 1, 0), Check.MISMATCH);
        Check.due("a kept index has several lengths", x.assign(4, 2, -1, 0), Check.MISMATCH);
        Check.due("nothing was assigned then", x.get(4, 0, 0) + x.length(4, 0), 1);
        Check.due("the stack stands", x.negate(), 1);
    }

    private static void assignOrder() {
        SparseFormulas x = arrays();
        Check.due("register before stack", x.assign(6, 0, -1, 0), Check.BAD_ARG);
        Check.due("indices before stack", x.assign(4, 1, 1, 0), Check.BAD_ARG);
        Check.due("format before stack", x.assign(4, 0, 1, 8), Check.BAD_ARG);
        Check.due("stack before index", x.assign(4, 0, 1, 0), Check.TOO_FEW);
        x.array(3, 2, -1);
        x.array(1, 2, -1);
        Check.due("stack before index, two", x.assign(4, 0, -1, 0), Check.TOO_FEW);
        x.join(2);
        Check.due("format before index", x.assign(4, 0, -1, 2), Check.BAD_ARG);
        Check.due("index before lengths", x.assign(4, 0, -1, 0), Check.NONE);
        Check.due("second index before lengths", x.assign(4, 2, 1, 0), Check.NONE);
        Check.due("lengths last", x.assign(4, 2, -1, 0), Check.MISMATCH);
        Check.due("span with a wrong index first", x.span(3), Check.BAD_ARG);
    }

    private static void assignFormats() {
        int[] room = {6, 4, 6, 4, 6, 4, 6, 4};
        for (int f = -1; f <= 8; f++) {
            SparseFormulas x = arrays();
            x.array(2, 0, 1);
            boolean fine = f >= 0 && f <= 7;
            Check.due("assign in format " + f, x.assign(4, 0, 1, f), fine ? room[f] : Check.BAD_ARG);
            x.scrap();
            x.array(1, 0, -1);
            int vectorRoom = f == 0 || f == 1 ? 3 : Check.BAD_ARG;
            Check.due("assign a vector in format " + f, x.assign(4, 0, -1, f), vectorRoom);
            x.scrap();
            x.constant(0);
            Check.due("assign a number in format " + f, x.assign(4, -1, -1, f), f == 0 ? 1 : Check.BAD_ARG);
        }
        int[] roomOfOuter = {12, 2, 4, 2, 12, 2, 6, 2};
        for (int f = 0; f < 8; f++) {
            SparseFormulas x = arrays();
            x.put(1, 1, 0, 0);
            x.put(1, 2, 0, 0);
            x.put(3, 1, 0, 1);
            x.put(3, 3, 0, 1);
            x.array(1, 0, -1);
            x.array(3, 1, -1);
            x.join(2);
            Check.due("assign an outer product in format " + f, x.assign(4, 0, 1, f), roomOfOuter[f]);
            Check.due("its room in format " + f, x.room(4), roomOfOuter[f]);
        }
    }

    private static void assignEmptiesTheStack() {
        SparseFormulas x = arrays();
        for (int round = 0; round < 4; round++) {
            x.array(1, 0, -1);
            for (int n = 1; n < 6; n++) {
                Check.due("array after assign", x.array(1, 0, -1), n + 1);
            }
            for (int n = 5; n > 0; n--) {
                Check.due("join after assign", x.join(0), n);
            }
            for (int n = 12; n <= 20; n++) {
                Check.due("part " + n + " after assign", x.negate(), 1);
            }
            Check.due("assign a full formula", total(x), -6 * 3);
            Check.due("span after assign", x.span(0), Check.NONE);
            Check.due("join after assign", x.join(0), Check.TOO_FEW);
        }
    }
}
