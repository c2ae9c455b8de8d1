/** A refused call answers the code named and changes nothing: an object that was refused is held against a twin. */
final class Refusal {
    interface Calls {
        void on(SparseFormulas x);
    }

    interface Call {
        int on(SparseFormulas x);
    }

    private interface Look {
        void at(SparseFormulas x, StringBuilder seen);
    }

    // Each look has twins of its own, because it changes what it looks at and an object lasts for 512 calls.
    private static final Look[] LOOKS = {
        Refusal::numbers, Refusal::ranksAndFormats, Refusal::top, Refusal::limits, Refusal::formula
    };

    private Refusal() {
    }

    static void due(String what, Calls before, Call call, int code) {
        for (Look look : LOOKS) {
            SparseFormulas refused = new SparseFormulas();
            SparseFormulas twin = new SparseFormulas();
            before.on(refused);
            before.on(twin);
            Check.due(what, call.on(refused), code);
            StringBuilder seen = new StringBuilder();
            StringBuilder wanted = new StringBuilder();
            look.at(refused, seen);
            look.at(twin, wanted);
            Check.due(what + " changes nothing: " + seen + " for " + wanted, seen.compareTo(wanted) == 0, true);
        }
    }

    /** An object whose registers have every rank and tell their formats apart, with two formulas on the stack. */
    static void busy(SparseFormulas x) {
        x.put(0, 0, 0, 7);
        x.make(1, 4, 0, 1);
        x.put(1, 1, 0, 5);
        x.put(1, 3, 0, -3);
        x.make(2, 2, 3, 2);
        x.put(2, 0, 1, 4);
        x.make(3, 3, 2, 6);
        x.put(3, 2, 1, -1);
        x.make(4, 6, 0, 0);
        x.put(4, 5, 0, 8);
        x.make(5, 6, 6, 7);
        x.put(5, 0, 5, 2);
        x.put(5, 5, 0, 3);
        x.array(1, 0, -1);
        x.array(2, 1, 2);
    }

    /** The same registers; on the stack register 2 times register 3 alone, in which indices 0 to 2 have a length. */
    static void busyWithOne(SparseFormulas x) {
        busy(x);
        x.scrap();
        x.array(2, 0, 1);
        x.array(3, 1, 2);
        x.join(2);
    }

    /** The same registers and an empty stack. */
    static void busyWithNone(SparseFormulas x) {
        busy(x);
        x.scrap();
    }

    private static void numbers(SparseFormulas x, StringBuilder seen) {
        for (int r = 0; r < 6; r++) {
            for (int i = 0; i < 6; i++) {
                for (int j = 0; j < 6; j++) {
                    seen.append(x.get(r, i, j)).append(' ');
                }
            }
        }
    }

    private static void ranksAndFormats(SparseFormulas x, StringBuilder seen) {
        for (int r = 0; r < 6; r++) {
            int n = x.length(r, 0);
            int m = x.length(r, 1);
            seen.append("| ").append(n).append(' ').append(m).append(' ').append(x.room(r)).append(' ');
            for (int place = 0; place < n * m; place++) {
                x.put(r, place / m, place % m, 0);
            }
            seen.append(x.room(r)).append(' ');
            x.put(r, n - 1, m - 1, 1);
            seen.append(x.room(r)).append(' ');
            seen.append(x.turn(r)).append(' ').append(x.room(r)).append(' ').append(x.format(r, 1)).append(' ');
        }
    }

    private static void top(SparseFormulas x, StringBuilder seen) {
        for (int p = 0; p < 3; p++) {
            seen.append(x.span(p)).append(' ');
        }
        for (int n = 0; n < 21; n++) {
            seen.append(x.negate()).append(' ');
        }
    }

    private static void limits(SparseFormulas x, StringBuilder seen) {
        x.make(0, 0, 0, 0);
        for (int n = 0; n < 7; n++) {
            seen.append(x.array(0, -1, -1)).append(' ').append(x.constant(1)).append(' ').append(x.join(0)).append(' ');
        }
    }

    private static void formula(SparseFormulas x, StringBuilder seen) {
        for (int n = 0; n < 6; n++) {
            seen.append(x.join(1)).append(' ');
            for (int p = 0; p < 3; p++) {
                seen.append(x.span(p)).append(' ');
            }
        }
        for (int p = 2; p >= -1; p--) {
            for (int q = 2; q >= -1; q--) {
                seen.append(x.assign(0, p, q, 0)).append(' ').append(x.digest(0)).append(' ');
            }
        }
    }
}
