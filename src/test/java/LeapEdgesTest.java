/** The edges that the document names for promises 28 and 29, a test for each sentence; what is due is told by hand or by Plain. */
public final class LeapEdgesTest {
    private static final Check CHECK = new Check();
    private static final int BAD = -1, NO = -2, NONE = -4;

    public static void main(String[] args) {
        leapsByZeroAreNo();
        linesHaveNoIndex();
        leapsAlongALine();
        indicesFromOneToTheGreatest();
        zeroIsThereAhead();
        numbersEndAtThirty();
        leapsThatAreTooFar();
        noWayThroughTheOutside();
        noShorterWayThroughTheOutside();
        theLongestWays();
        noRegisters();
        theFirstOfSeveral();
        CHECK.end();
    }

    /** Register 0 is where the leaps are to lead, 1 what they are by; 3 shows the net. */
    private static PlaneWholes of(int kind, int a, int b, int c, int d) {
        PlaneWholes x = new PlaneWholes();
        x.kind(kind);
        x.set(0, a, b);
        x.set(1, c, d);
        x.set(3, 5, 7);
        return x;
    }

    private static void leapsByZeroAreNo() {
        for (int kind = 0; kind <= 4; kind++) {
            PlaneWholes x = of(kind, 1, 1, 0, 0);
            CHECK.stays(x, "Promise 28: m is 0", () -> x.where(1), NO);
            CHECK.stays(x, "Promise 29: m is 0", () -> x.leaps(1, 0), NO);
            CHECK.stays(x, "Promise 29: m is 0, and x too", () -> x.leaps(1, 1), NO);
        }
    }

    private static void linesHaveNoIndex() {
        int[][] lines = {{2, 1, 0}, {2, 0, 1}, {2, -20000, 0}, {2, 0, 20000}, {3, 4, 0}, {3, 1, -2}, {3, -20000, 0}, {3, 10000, -20000},
            {4, 1, 0}, {4, -1, 2}, {4, 20000, 0}, {4, -10000, 20000}};
        for (int[] m : lines) {
            PlaneWholes x = of(m[0], 1, 1, m[1], m[2]);
            CHECK.stays(x, "Term 6: a line alone, kind " + m[0] + " " + m[1] + " " + m[2], () -> x.where(1), NONE);
        }
        // Next to a line, and where a turn leads off it.
        int[][] none = {{2, 1, 1, 2}, {2, 1, -1, 2}, {3, 1, -1, 1}, {3, 0, 1, 1}, {4, 0, 1, 1}, {3, 4, 1, 9}, {0, 5, 0, 25}, {0, 0, -5, 25},
            {1, 5, 0, 25}, {1, 1, 2, 3}};
        for (int[] m : none) {
            PlaneWholes x = of(m[0], 1, 1, m[1], m[2]);
            CHECK.stays(x, "Term 6: no line, kind " + m[0] + " " + m[1] + " " + m[2], () -> x.where(1), m[3]);
        }
    }

    private static void leapsAlongALine() {
        PlaneWholes x = of(2, 30, 0, 3, 0);
        CHECK.due("Promise 29: along a line", x.leaps(1, 0), 10);
        x.set(0, -30, 0);
        CHECK.due("Promise 29: along a line, back", x.leaps(1, 0), 10);
        x.set(0, 29, 0);
        CHECK.due("Promise 29: between", x.leaps(1, 0), NONE);
        x.set(0, 30, 1);
        CHECK.due("Promise 29: beside", x.leaps(1, 0), NONE);
    }

    private static void indicesFromOneToTheGreatest() {
        for (int kind = 0; kind <= 1; kind++) {
            CHECK.due("Promise 28: everywhere", of(kind, 0, 0, 1, 0).where(1), 1);
        }
        CHECK.due("Promise 28: p, q may be greater, squares", of(0, 0, 0, 20000, 0).where(1), 400000000L);
        CHECK.due("Promise 28: p, q may be greater, corners", of(0, 0, 0, -20000, 20000).where(1), 800000000L);
        CHECK.due("Promise 28: p, q may be greater, triangles", of(1, 0, 0, 20000, -20000).where(1), 1200000000L);
        CHECK.due("Promise 28: p, q may be greater, kind 2", of(2, 0, 0, 20000, -20000).where(1), 800000000L);
        CHECK.due("Promise 28: p, q may be greater, kind 3", of(3, 0, 0, 20000, 20000).where(1), 1200000000L);
        CHECK.due("Promise 28: p, q may be greater, kind 4", of(4, 0, 0, -20000, -20000).where(1), 1200000000L);
    }

    private static void zeroIsThereAhead() {
        for (int kind = 0; kind <= 4; kind++) {
            CHECK.due("Promise 29: no leap to 0", of(kind, 0, 0, 2, 1).leaps(1, 0), 0);
            CHECK.due("Promise 29: no leap to 0, by ones too far", of(kind, 0, 0, 20000, -20000).leaps(1, 0), 0);
        }
    }

    private static void numbersEndAtThirty() {
        int[][] within = {{30, 0, 30}, {-30, 0, 30}, {0, 30, 30}, {0, -30, 30}, {30, 30, 60}, {-30, -30, 60}, {30, -30, 60}, {-30, 30, 60}};
        for (int[] x : within) {
            CHECK.due("Term 6: to " + x[0] + " " + x[1], of(0, x[0], x[1], 1, 0).leaps(1, 0), x[2]);
        }
        int[][] beyond = {{31, 0}, {-31, 0}, {0, 31}, {0, -31}, {31, 31}, {33, 0}, {34, 0}, {-34, 0}, {64, 0}, {-64, 0}, {0, 61}, {0, -61},
            {20000, 0}, {-20000, -20000}, {0, 20000}};
        for (int[] x : beyond) {
            CHECK.due("Term 6: beyond, " + x[0] + " " + x[1], of(0, x[0], x[1], 1, 0).leaps(1, 0), NONE);
            CHECK.due("Term 6: beyond, by it, " + x[0] + " " + x[1], of(0, x[0], x[1], x[0], x[1]).leaps(1, 0), NONE);
        }
    }

    private static void leapsThatAreTooFar() {
        // The leap itself ends beyond 30.
        for (int far : new int[] {31, 60, 61, 63, 64, 65, 128, 20000}) {
            for (int x : new int[] {-30, -1, 1, 30}) {
                CHECK.due("Term 6: by " + far, of(0, x, 0, far, 0).leaps(1, 0), NONE);
                CHECK.due("Term 6: by " + far + " w", of(0, 0, x, 0, far).leaps(1, 0), NONE);
                CHECK.due("Term 6: by " + far + " in kind 2", of(2, x, 0, far, 0).leaps(1, 0), NONE);
                CHECK.due("Term 6: by " + far + " w in kind 2", of(2, 0, x, 0, -far).leaps(1, 0), NONE);
            }
        }
        CHECK.due("Term 6: by 30", of(2, -30, 0, 30, 0).leaps(1, 0), 1);
        CHECK.due("Term 6: by 30 w", of(2, 0, 30, 0, 30).leaps(1, 0), 1);
    }

    private static void noWayThroughTheOutside() {
        // Two leaps lead there, but the number between them is beyond 30.
        CHECK.due("Term 6: 1 + 31 w and then back", of(2, 2, 0, 1, 31).leaps(1, 0), NONE);
        CHECK.due("Term 6: the same by 1 + 30 w", of(2, 2, 0, 1, 30).leaps(1, 0), 2);
        CHECK.due("Term 6: 31 + w and then back", of(3, -1, 2, 31, 1).leaps(1, 0), NONE);
        CHECK.due("Term 6: squares", of(0, -1, -1, 1, 31).leaps(1, 0), NONE);
        CHECK.due("Term 6: though WHERE has it", of(0, -1, -1, 1, 31).where(1), 2);
        CHECK.due("Term 6: triangles", of(1, -1, 1, 1, 32).leaps(1, 0), NONE);
    }

    private static void noShorterWayThroughTheOutside() {
        CHECK.due("Term 6: 6 leaps would lead there outside", of(0, 30, 30, 1, 11).leaps(1, 0), 8);
        CHECK.due("Term 6: 4 leaps would lead there outside", of(0, 30, 30, 1, 16).leaps(1, 0), 6);
        CHECK.due("Term 6: 10 leaps would lead there outside", of(1, -30, 30, 1, 7).leaps(1, 0), 11);
    }

    private static void theLongestWays() {
        CHECK.due("Term 6: the longest way with squares", of(0, -29, -29, 29, 30).leaps(1, 0), 114);
        CHECK.due("Term 6: the longest way with triangles", of(1, -30, 30, 0, 1).leaps(1, 0), 60);
        CHECK.due("Term 6: the longest way in kind 2", of(2, 0, -30, 0, 1).leaps(1, 0), 30);
        CHECK.due("Term 6: the longest way in kind 3", of(3, -30, -30, 0, 1).leaps(1, 0), 90);
        CHECK.due("Term 6: the longest way in kind 4", of(4, -30, -30, 0, 1).leaps(1, 0), 90);
    }

    private static void noRegisters() {
        PlaneWholes x = of(0, 1, 1, 2, 1);
        for (int r : Check.NO_REGISTERS) {
            CHECK.stays(x, "Promise 28: by " + r, () -> x.where(r), BAD);
            CHECK.stays(x, "Promise 29: by " + r, () -> x.leaps(r, 0), BAD);
            CHECK.stays(x, "Promise 29: to " + r, () -> x.leaps(1, r), BAD);
        }
        x.set(7, 2, 1);
        CHECK.due("Promise 28: by the last register", x.where(7), 1);
        CHECK.due("Promise 29: by and to the last register", x.leaps(7, 7), 1);
    }

    private static void theFirstOfSeveral() {
        PlaneWholes x = of(0, 31, 0, 0, 0);
        for (int r : Check.NO_REGISTERS) {
            CHECK.stays(x, "Term 6: BAD ahead of NO", () -> x.leaps(1, r), BAD);
        }
        CHECK.stays(x, "Term 6: NO ahead of NONE", () -> x.leaps(1, 0), NO);
    }
}
