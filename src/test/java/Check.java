/** Counts the answers that are not the ones that are due, and tells them. */
final class Check {
    static final int BAD_ARG = SparseFormulas.BAD_ARG;
    static final int FULL = SparseFormulas.FULL;
    static final int TOO_FEW = SparseFormulas.TOO_FEW;
    static final int NONE = SparseFormulas.NONE;
    static final int MISMATCH = SparseFormulas.MISMATCH;

    /** Numbers far outside every range, and the nearest ones to the edges of most. */
    static final int[] FAR = {Integer.MIN_VALUE, -1000, -2, 100, 1000, Integer.MAX_VALUE};

    private static int wrong = 0;

    private Check() {
    }

    static void due(String what, int got, int want) {
        if (got != want) {
            fault(what + " answered " + got + ", due is " + want);
        }
    }

    static void due(String what, boolean got, boolean want) {
        due(what, got ? 1 : 0, want ? 1 : 0);
    }

    static void fault(String what) {
        wrong++;
        System.out.println(what);
    }

    static void end() {
        System.out.println(wrong == 0 ? "all answers are as due" : wrong + " answers are not as due");
        if (wrong != 0) {
            System.exit(1);
        }
    }
}
