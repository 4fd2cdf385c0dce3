/** The edges that the document names for promises 23 to 27, a test for each sentence; what is due is told by hand or by Plain. */
public final class FlockEdgesTest {
    private static final Check CHECK = new Check();
    private static final int BAD = -1, NO = -2, NONE = -4;

    public static void main(String[] args) {
        indexEndsAtTwoHundred();
        flocksKnowTwoWays();
        ranksEndBehindTheLast();
        flockKnowsSixWays();
        theWholeNetAsAFlock();
        theLeanestFlocks();
        flocksAreToldFromOneToTwoHundred();
        hasZeroAndTheFarthest();
        sumsAreNeverAbove();
        meetJustWithinAndAbove();
        meetWithItself();
        joinedKnowsThreeWays();
        turnedByZeroIsNo();
        turnedByUnits();
        turnedJustWithinAndAbove();
        turnedByTheFarthest();
        turnedKnowsThreeWays();
        noRegisters();
        CHECK.end();
    }

    private static PlaneWholes of(int kind, int a, int b) {
        PlaneWholes x = new PlaneWholes();
        x.kind(kind);
        x.set(0, a, b);
        x.set(3, 5, 7);
        return x;
    }

    private static void indexEndsAtTwoHundred() {
        int[] closed = {3, 0, 1, 4, 0};
        for (int kind = 0; kind <= 4; kind++) {
            PlaneWholes x = of(kind, 1, 0);
            CHECK.due("Promise 23: of INDEX 1", x.flocks(1, 0), 1);
            CHECK.due("Promise 23: CLOSED of INDEX 1", x.flocks(1, 1), 1);
            CHECK.due("Promise 23: of INDEX 200", x.flocks(200, 0), 465);
            CHECK.due("Promise 23: CLOSED of INDEX 200, kind " + kind, x.flocks(200, 1), closed[kind]);
            for (int n : new int[] {0, -1, 201, Integer.MIN_VALUE, Integer.MAX_VALUE}) {
                CHECK.stays(x, "Promise 23: of INDEX " + n, () -> x.flocks(n, 0), BAD);
                CHECK.stays(x, "Promise 23: CLOSED of INDEX " + n, () -> x.flocks(n, 1), BAD);
                for (int what = 0; what <= 5; what++) {
                    int way = what;
                    CHECK.stays(x, "Promise 24: of INDEX " + n, () -> x.flock(n, 0, way), BAD);
                }
            }
        }
    }

    private static void flocksKnowTwoWays() {
        PlaneWholes x = of(0, 1, 0);
        for (int what : new int[] {-1, 2, Integer.MIN_VALUE, Integer.MAX_VALUE}) {
            CHECK.stays(x, "Promise 23: what is " + what, () -> x.flocks(5, what), BAD);
        }
    }

    private static void told(PlaneWholes x, int n, int k, int p, int q, int r) {
        String call = "Term 5: INDEX " + n + " RANK " + k;
        CHECK.due(call + " p", x.flock(n, k, 0), p);
        CHECK.due(call + " q", x.flock(n, k, 1), q);
        CHECK.due(call + " r", x.flock(n, k, 2), r);
    }

    private static void ranksEndBehindTheLast() {
        PlaneWholes x = of(2, 1, 0);
        told(x, 1, 0, 1, 1, 0);
        told(x, 200, 0, 200, 1, 0);
        told(x, 200, 199, 200, 1, 199);
        told(x, 200, 200, 100, 2, 0);
        told(x, 200, 299, 100, 2, 99);
        told(x, 200, 300, 50, 4, 0);
        told(x, 200, 463, 2, 100, 1);
        told(x, 200, 464, 1, 200, 0);
        told(x, 199, 198, 199, 1, 198);
        told(x, 199, 199, 1, 199, 0);
        for (int what = 0; what <= 5; what++) {
            int way = what;
            CHECK.stays(x, "Promise 24: behind the last of 200", () -> x.flock(200, 465, way), NONE);
            CHECK.stays(x, "Promise 24: behind the last of 1", () -> x.flock(1, 1, way), NONE);
            CHECK.stays(x, "Promise 24: far behind the last", () -> x.flock(1, Integer.MAX_VALUE, way), NONE);
            CHECK.stays(x, "Promise 24: ahead of the first", () -> x.flock(200, -1, way), BAD);
            CHECK.stays(x, "Promise 24: far ahead of the first", () -> x.flock(200, Integer.MIN_VALUE, way), BAD);
        }
    }

    private static void flockKnowsSixWays() {
        PlaneWholes x = of(0, 1, 0);
        for (int what : new int[] {-1, 6, Integer.MIN_VALUE, Integer.MAX_VALUE}) {
            CHECK.stays(x, "Promise 24: what is " + what, () -> x.flock(5, 0, what), BAD);
            CHECK.stays(x, "Term 6: BAD also where there is NONE", () -> x.flock(5, 100, what), BAD);
        }
    }

    private static void theWholeNetAsAFlock() {
        int[] units = {4, 6, 2, 2, 2};
        for (int kind = 0; kind <= 4; kind++) {
            PlaneWholes x = of(kind, -20000, 19999);
            CHECK.due("Term 5: the whole net is CLOSED", x.flock(1, 0, 3), 1);
            CHECK.due("Term 5: SHORTEST of it", x.flock(1, 0, 4), 1);
            CHECK.due("Term 5: its units are as many", x.flock(1, 0, 5), units[kind]);
            CHECK.due("Term 5: it HAS each", x.has(1, 1, 0, 0), 1);
        }
    }

    private static void theLeanestFlocks() {
        int[] sizeOfW = {1, 1, 2, 2, 3};
        for (int kind = 0; kind <= 4; kind++) {
            PlaneWholes x = of(kind, 1, 0);
            CHECK.due("Term 5: a row of w and every 200th: CLOSED", x.flock(200, 0, 3), 0);
            CHECK.due("Term 5: a row of w and every 200th: SHORTEST", x.flock(200, 0, 4), sizeOfW[kind]);
            CHECK.due("Term 5: how many are of it", x.flock(200, 0, 5), 2);
            CHECK.due("Term 5: a row of 1 and every 200th: CLOSED", x.flock(200, 464, 3), 0);
            CHECK.due("Term 5: a row of 1 and every 200th: SHORTEST", x.flock(200, 464, 4), 1);
            CHECK.due("Term 5: how many are of it", x.flock(200, 464, 5), 2);
        }
        // (2, 2, 0), all even ones: as many as there are units, of size 4.
        PlaneWholes x = of(1, 1, 0);
        told(x, 4, 4, 2, 2, 0);
        CHECK.due("Term 5: the most that are SHORTEST", x.flock(4, 4, 5), 6);
        CHECK.due("Term 5: their size", x.flock(4, 4, 4), 4);
    }

    private static void badFlock(PlaneWholes x, int p, int q, int r) {
        String told = "Term 5: the FLOCK " + p + " " + q + " " + r;
        CHECK.stays(x, told, () -> x.has(p, q, r, 0), BAD);
        for (int what = 0; what <= 2; what++) {
            int way = what;
            CHECK.stays(x, told, () -> x.joined(p, q, r, 1, 1, 0, true, way), BAD);
            CHECK.stays(x, told, () -> x.joined(p, q, r, 1, 1, 0, false, way), BAD);
            CHECK.stays(x, told, () -> x.joined(1, 1, 0, p, q, r, true, way), BAD);
            CHECK.stays(x, told, () -> x.joined(1, 1, 0, p, q, r, false, way), BAD);
            CHECK.stays(x, told, () -> x.turned(p, q, r, 0, way), BAD);
            CHECK.stays(x, told + ", BAD ahead of NO", () -> x.turned(p, q, r, 7, way), BAD);
        }
    }

    private static void flocksAreToldFromOneToTwoHundred() {
        PlaneWholes x = of(0, 1, 0);
        for (int far : new int[] {0, -1, 201, Integer.MIN_VALUE, Integer.MAX_VALUE}) {
            badFlock(x, far, 1, 0);
            badFlock(x, 1, far, 0);
        }
        for (int far : new int[] {-1, Integer.MIN_VALUE, Integer.MAX_VALUE}) {
            badFlock(x, 200, 200, far);
        }
        badFlock(x, 1, 1, 1);
        badFlock(x, 3, 200, 3);
        badFlock(x, 200, 1, 200);
        for (int[] f : new int[][] {{1, 1, 0}, {200, 200, 0}, {200, 200, 199}, {1, 200, 0}, {200, 1, 199}}) {
            int[] due = {f[0], f[1], f[2]};
            for (int what = 0; what <= 2; what++) {
                CHECK.due("Term 5: told at the ends, meet", x.joined(f[0], f[1], f[2], 1, 1, 0, true, what), due[what]);
                CHECK.due("Term 5: told at the ends, meet", x.joined(1, 1, 0, f[0], f[1], f[2], true, what), due[what]);
                CHECK.due("Term 5: told at the ends, sum", x.joined(f[0], f[1], f[2], 1, 1, 0, false, what), what == 2 ? 0 : 1);
                CHECK.due("Term 5: told at the ends, turned by 1", x.turned(f[0], f[1], f[2], 0, what), due[what]);
            }
        }
    }

    private static void hasZeroAndTheFarthest() {
        PlaneWholes x = of(0, 0, 0);
        CHECK.due("Promise 25: 0 is in each", x.has(200, 200, 199, 0), 1);
        int[][] in = {{199, 200}, {-199, -200}, {1, -200}, {200, 0}, {-20000, 0}, {-20000, 20000 - 20000}, {-100, 20000}, {20000, 0}};
        for (int[] number : in) {
            x.set(0, number[0], number[1]);
            CHECK.due("Promise 25: HAS " + number[0] + " " + number[1], x.has(200, 200, 199, 0), 1);
        }
        int[][] out = {{199, 0}, {0, 200}, {199, 199}, {-1, 0}, {200, 1}, {-20000, 20000}, {20000, -20000}};
        for (int[] number : out) {
            x.set(0, number[0], number[1]);
            CHECK.due("Promise 25: HAS not " + number[0] + " " + number[1], x.has(200, 200, 199, 0), 0);
        }
    }

    private static void joined(int[] f, int[] g, boolean meet, int p, int q, int r) {
        PlaneWholes x = of(0, 1, 0);
        int[] due = {p, q, r};
        for (int what = 0; what <= 2; what++) {
            String told = "Promise 26: " + f[0] + " " + f[1] + " " + f[2] + " and " + g[0] + " " + g[1] + " " + g[2] + " " + what;
            CHECK.due(told, x.joined(f[0], f[1], f[2], g[0], g[1], g[2], meet, what), due[what]);
            CHECK.due(told + " the other way", x.joined(g[0], g[1], g[2], f[0], f[1], f[2], meet, what), due[what]);
        }
    }

    private static void sumsAreNeverAbove() {
        joined(new int[] {200, 200, 0}, new int[] {199, 199, 0}, false, 1, 1, 0);
        joined(new int[] {200, 200, 199}, new int[] {200, 200, 0}, false, 1, 200, 0);
        joined(new int[] {200, 200, 150}, new int[] {200, 200, 0}, false, 50, 200, 0);
        joined(new int[] {200, 200, 150}, new int[] {200, 200, 150}, false, 200, 200, 150);
        joined(new int[] {200, 1, 100}, new int[] {200, 200, 0}, false, 200, 1, 100);
        joined(new int[] {2, 2, 1}, new int[] {2, 2, 0}, false, 1, 2, 0);
    }

    private static void meetJustWithinAndAbove() {
        joined(new int[] {8, 1, 0}, new int[] {25, 1, 0}, true, 200, 1, 0);
        joined(new int[] {3, 1, 0}, new int[] {67, 1, 0}, true, NO, NO, NO);
        joined(new int[] {1, 8, 0}, new int[] {1, 25, 0}, true, 1, 200, 0);
        joined(new int[] {1, 3, 0}, new int[] {1, 67, 0}, true, NO, NO, NO);
        // Of one p and q, but off one another by r: only every so manieth row is in both.
        joined(new int[] {2, 1, 0}, new int[] {2, 1, 1}, true, 2, 2, 0);
        joined(new int[] {200, 1, 0}, new int[] {200, 1, 1}, true, 200, 200, 0);
        joined(new int[] {100, 2, 0}, new int[] {100, 2, 1}, true, 100, 200, 0);
        joined(new int[] {101, 2, 0}, new int[] {101, 2, 1}, true, NO, NO, NO);
        joined(new int[] {200, 200, 0}, new int[] {200, 200, 1}, true, NO, NO, NO);
        joined(new int[] {200, 200, 199}, new int[] {199, 199, 198}, true, NO, NO, NO);
        joined(new int[] {8, 1, 1}, new int[] {25, 1, 0}, true, 200, 1, 25);
    }

    private static void meetWithItself() {
        for (int[] f : new int[][] {{1, 1, 0}, {200, 200, 199}, {7, 3, 5}}) {
            joined(f, f, true, f[0], f[1], f[2]);
            joined(f, f, false, f[0], f[1], f[2]);
        }
    }

    private static void joinedKnowsThreeWays() {
        PlaneWholes x = of(0, 1, 0);
        for (int what : new int[] {-1, 3, Integer.MIN_VALUE, Integer.MAX_VALUE}) {
            CHECK.stays(x, "Promise 26: what is " + what, () -> x.joined(2, 1, 0, 3, 1, 0, true, what), BAD);
            CHECK.stays(x, "Promise 26: what is " + what, () -> x.joined(2, 1, 0, 3, 1, 0, false, what), BAD);
            CHECK.stays(x, "Term 6: BAD ahead of NO", () -> x.joined(3, 1, 0, 67, 1, 0, true, what), BAD);
        }
    }

    private static void turned(int kind, int[] f, int a, int b, int p, int q, int r) {
        PlaneWholes x = of(kind, a, b);
        int[] due = {p, q, r};
        for (int what = 0; what <= 2; what++) {
            int way = what;
            String told = "Promise 27: kind " + kind + ", " + f[0] + " " + f[1] + " " + f[2] + " by " + a + " " + b + " " + what;
            CHECK.stays(x, told, () -> x.turned(f[0], f[1], f[2], 0, way), due[what]);
        }
    }

    private static void turnedByZeroIsNo() {
        for (int kind = 0; kind <= 4; kind++) {
            turned(kind, new int[] {1, 1, 0}, 0, 0, NO, NO, NO);
            turned(kind, new int[] {200, 200, 199}, 0, 0, NO, NO, NO);
        }
    }

    private static void turnedByUnits() {
        turned(0, new int[] {200, 1, 0}, 0, 1, 1, 200, 0);
        turned(0, new int[] {1, 200, 0}, 0, -1, 200, 1, 0);
        turned(0, new int[] {200, 1, 1}, 0, 1, 200, 1, 199);
        for (int kind = 0; kind <= 4; kind++) {
            turned(kind, new int[] {200, 200, 199}, -1, 0, 200, 200, 199);
        }
        // All is the same net, by whatever unit.
        turned(1, new int[] {1, 1, 0}, 1, 1, 1, 1, 0);
        turned(1, new int[] {200, 200, 0}, -1, -1, 200, 200, 0);
    }

    private static void turnedJustWithinAndAbove() {
        turned(0, new int[] {1, 1, 0}, 200, 0, 200, 200, 0);
        turned(0, new int[] {1, 1, 0}, 201, 0, NO, NO, NO);
        // All times 2 w: p 2 and q twice what p was.
        turned(0, new int[] {100, 1, 0}, 0, 2, 2, 200, 0);
        turned(0, new int[] {101, 1, 0}, 0, 2, NO, NO, NO);
        // And p twice what q was.
        turned(0, new int[] {1, 100, 0}, 0, 2, 200, 2, 0);
        turned(0, new int[] {1, 101, 0}, 0, 2, NO, NO, NO);
        // 14 + 3 w is of size 205, and its flock has every row.
        turned(0, new int[] {1, 1, 0}, 14, 3, NO, NO, NO);
        // 14 + w of size 197: w is as -14, so r is 197 - (-14) by -1, that is 14.
        turned(0, new int[] {1, 1, 0}, 14, 1, 197, 1, 14);
        turned(2, new int[] {1, 1, 0}, 14, 1, 198, 1, 14);
        turned(4, new int[] {1, 1, 0}, 13, 1, 185, 1, 13);
        turned(4, new int[] {1, 1, 0}, 14, 1, NO, NO, NO);
    }

    private static void turnedByTheFarthest() {
        for (int kind = 0; kind <= 4; kind++) {
            for (int a : new int[] {-20000, 20000}) {
                for (int b : new int[] {-20000, 19999, 20000}) {
                    turned(kind, new int[] {200, 200, 199}, a, b, NO, NO, NO);
                    turned(kind, new int[] {1, 1, 0}, a, b, NO, NO, NO);
                }
            }
        }
    }

    private static void turnedKnowsThreeWays() {
        PlaneWholes x = of(0, 201, 0);
        for (int what : new int[] {-1, 3, Integer.MIN_VALUE, Integer.MAX_VALUE}) {
            CHECK.stays(x, "Promise 27: what is " + what, () -> x.turned(1, 1, 0, 3, what), BAD);
            CHECK.stays(x, "Term 6: BAD ahead of NO, by 0", () -> x.turned(1, 1, 0, 7, what), BAD);
            CHECK.stays(x, "Term 6: BAD ahead of NO, above", () -> x.turned(1, 1, 0, 0, what), BAD);
        }
    }

    private static void noRegisters() {
        PlaneWholes x = of(0, 2, 1);
        for (int r : Check.NO_REGISTERS) {
            CHECK.stays(x, "Promise 25: of " + r, () -> x.has(1, 1, 0, r), BAD);
            for (int what = 0; what <= 2; what++) {
                int way = what;
                CHECK.stays(x, "Promise 27: by " + r, () -> x.turned(1, 1, 0, r, way), BAD);
            }
        }
        x.set(7, 2, 1);
        CHECK.due("Promise 25: the last register", x.has(5, 1, 2, 7), 1);
        CHECK.due("Promise 27: by the last register", x.turned(1, 1, 0, 7, 0), 5);
    }
}
