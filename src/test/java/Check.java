import java.util.Arrays;
import java.util.function.LongSupplier;

/** Counts wrong answers of a test and ends it. */
final class Check {
    /** What no register is told by: just beyond both ends, and as far as an int goes. */
    static final int[] NO_REGISTERS = {-1, 8, Integer.MIN_VALUE, Integer.MAX_VALUE};

    private static final int TOLD = 40;
    private int asked = 0;
    private int wrong = 0;

    void due(String call, long got, long want) {
        asked++;
        if (got != want) {
            wrong++;
            if (wrong <= TOLD) {
                System.out.println(call + " answered " + got + ", due is " + want);
            }
        }
    }

    /** The register holds this number. */
    void holds(PlaneWholes x, String call, int r, long a, long b) {
        due(call + ", get(" + r + ", 0)", x.get(r, 0), a);
        due(call + ", get(" + r + ", 1)", x.get(r, 1), b);
    }

    /** The call is done, and the register holds this number then. */
    void becomes(PlaneWholes x, String call, long answer, int r, long a, long b) {
        due(call, answer, 0);
        holds(x, call, r, a, b);
    }

    /** The call answers this, and all registers and the net stay. */
    void stays(PlaneWholes x, String call, LongSupplier made, long want) {
        long[] ahead = state(x);
        due(call, made.getAsLong(), want);
        due(call + ": nothing changes", Arrays.equals(ahead, state(x)) ? 1 : 0, 1);
    }

    // What the net is shows in the sizes, where a register's b is not 0.
    private static long[] state(PlaneWholes x) {
        long[] state = new long[24];
        for (int r = 0; r < 8; r++) {
            state[3 * r] = x.get(r, 0);
            state[3 * r + 1] = x.get(r, 1);
            state[3 * r + 2] = x.size(r);
        }
        return state;
    }

    void end() {
        System.out.println(asked + " answers, " + wrong + " wrong");
        if (wrong != 0) {
            System.exit(1);
        }
    }
}
