/** The edges that the document names for promises 14 to 19, a test for each sentence; what is due is told by hand or by Plain. */
public final class RestEdgesTest {
    private static final Check CHECK = new Check();
    private static final int BAD = -1, NO = -2, NONE = -4;
    private static final int MILLIARD = 1000000000;

    public static void main(String[] args) {
        bySizeBelowTwoIsNo();
        byTheLeastSize();
        byTheGreatestSize();
        bySizeAboveAHundredThousandIsNo();
        powersFromZeroToAMilliard();
        powerOfZero();
        ordersFromOneToTheGreatest();
        noOrderWithoutAnInverse();
        noInverse();
        inverseOfOne();
        rootsEndAtFourHundred();
        rootsOfNothing();
        ranksOfRoots();
        rootsByAThenB();
        intoTheirOwnRegisters();
        noRegisters();
        theFirstOfSeveral();
        CHECK.end();
    }

    /** Register 0 is the number, 1 is what it is reckoned by; 2 and 3 are told. */
    private static PlaneWholes of(int kind, int a, int b, int c, int d) {
        PlaneWholes x = new PlaneWholes();
        x.kind(kind);
        x.set(0, a, b);
        x.set(1, c, d);
        x.set(2, 77, -78);
        x.set(3, 5, 7);
        return x;
    }

    private static void allNo(PlaneWholes x, String told) {
        CHECK.stays(x, told + " power", () -> x.power(2, 0, 1, 1), NO);
        CHECK.stays(x, told + " power 0", () -> x.power(2, 0, 0, 1), NO);
        CHECK.stays(x, told + " order", () -> x.order(0, 1), NO);
        CHECK.stays(x, told + " inverse", () -> x.inverse(2, 0, 1), NO);
        CHECK.stays(x, told + " single", () -> x.single(1), NO);
        rootsNo(x, told);
    }

    private static void rootsNo(PlaneWholes x, String told) {
        CHECK.stays(x, told + " roots", () -> x.roots(0, 1), NO);
        CHECK.stays(x, told + " root", () -> x.root(2, 0, 1, 0), NO);
        CHECK.stays(x, told + " root, whatever i", () -> x.root(2, 0, 1, Integer.MAX_VALUE), NO);
    }

    private static void bySizeBelowTwoIsNo() {
        for (int kind = 0; kind <= 4; kind++) {
            allNo(of(kind, 3, 2, 0, 0), "Promise 14 on: by 0, kind " + kind);
            allNo(of(kind, 3, 2, 1, 0), "Promise 14 on: by 1, kind " + kind);
            allNo(of(kind, 3, 2, -1, 0), "Promise 14 on: by -1, kind " + kind);
            allNo(of(kind, 0, 0, 1, 0), "Promise 14 on: 0 by 1, kind " + kind);
        }
        allNo(of(0, 3, 2, 0, 1), "Promise 14 on: by w with squares");
        allNo(of(1, 3, 2, -1, -1), "Promise 14 on: by w w with triangles");
    }

    private static void byTheLeastSize() {
        // kind, m of size 2: RESTS are 0 and that of 1, which is the unit whose quotient is the least.
        int[][] twos = {{0, 1, 1, 0, 1}, {2, 0, 1, -1, 0}, {3, 0, 1, 1, 0}};
        for (int[] one : twos) {
            PlaneWholes x = of(one[0], 7, 2, one[1], one[2]);
            String told = "Term 3: by size 2, kind " + one[0];
            CHECK.becomes(x, told, x.power(2, 0, 0, 1), 2, one[3], one[4]);
            CHECK.becomes(x, told, x.power(2, 0, MILLIARD, 1), 2, one[3], one[4]);
            CHECK.due(told, x.order(0, 1), 1);
            CHECK.becomes(x, told, x.inverse(2, 0, 1), 2, one[3], one[4]);
            CHECK.due(told, x.single(1), 1);
            CHECK.due(told, x.roots(0, 1), 1);
            CHECK.becomes(x, told, x.root(2, 0, 1, 0), 2, one[3], one[4]);
        }
        for (int kind : new int[] {1, 4}) {
            PlaneWholes x = of(kind, 1, 0, kind == 1 ? 1 : 0, kind == 1 ? -1 : 1);
            CHECK.due("Term 3: by size 3, the least there is", x.single(1), 2);
            CHECK.due("Term 3: by size 3, the least there is", x.roots(0, 1), 2);
        }
    }

    private static void byTheGreatestSize() {
        // 12 + 316 w is of size 100000: 1 + w 5 times, 5 of one sort 5 times; 16 times 2500 have an inverse.
        PlaneWholes x = of(0, 1, 0, 12, 316);
        CHECK.due("Term 3: single by size 100000", x.single(1), 40000);
        CHECK.due("Term 3: order by size 100000", x.order(0, 1), 1);
        CHECK.becomes(x, "Term 3: power by size 100000", x.power(2, 0, MILLIARD, 1), 2, 1, 0);
        CHECK.becomes(x, "Term 3: inverse by size 100000", x.inverse(2, 0, 1), 2, 1, 0);
    }

    private static void bySizeAboveAHundredThousandIsNo() {
        // Of size 100001 in kinds 2 and 4, of 100003 and 100004 where there is none of that.
        int[][] beyond = {{0, 200, 245}, {1, 14, -309}, {2, 123, -206}, {3, 235, 102}, {4, 301, 25}};
        for (int[] m : beyond) {
            PlaneWholes x = of(m[0], 3, 2, m[1], m[2]);
            CHECK.due("the size of this test's m", x.size(1) > 100000 && x.size(1) <= 100025 ? 1 : 0, 1);
            allNo(x, "Promise 14 on: of size " + x.size(1));
        }
        for (int kind = 0; kind <= 4; kind++) {
            allNo(of(kind, 3, 2, 20000, 20000), "Promise 14 on: by the farthest");
        }
    }

    private static void powersFromZeroToAMilliard() {
        // By 2 + w of size 5 in squares w is as -2: RESTS 0, 1, -1, w, -w; 7 + 5 w leaves -w.
        PlaneWholes x = of(0, 7, 5, 2, 1);
        CHECK.becomes(x, "Promise 14: 0 times", x.power(2, 0, 0, 1), 2, 1, 0);
        CHECK.becomes(x, "Promise 14: once", x.power(2, 0, 1, 1), 2, 0, -1);
        CHECK.becomes(x, "Promise 14: one less than the most", x.power(2, 0, MILLIARD - 1, 1), 2, 0, 1);
        CHECK.becomes(x, "Promise 14: the most times", x.power(2, 0, MILLIARD, 1), 2, 1, 0);
        for (int k : new int[] {-1, MILLIARD + 1, Integer.MIN_VALUE, Integer.MAX_VALUE}) {
            CHECK.stays(x, "Promise 14: " + k + " times", () -> x.power(2, 0, k, 1), BAD);
        }
    }

    private static void powerOfZero() {
        PlaneWholes x = of(0, 0, 0, 2, 1);
        CHECK.becomes(x, "Promise 14: 0, 0 times", x.power(2, 0, 0, 1), 2, 1, 0);
        CHECK.becomes(x, "Promise 14: 0, once", x.power(2, 0, 1, 1), 2, 0, 0);
        CHECK.becomes(x, "Promise 14: 0, the most times", x.power(2, 0, MILLIARD, 1), 2, 0, 0);
        x.set(0, 2, 1);
        CHECK.becomes(x, "Promise 14: m itself, 0 times", x.power(2, 0, 0, 1), 2, 1, 0);
        CHECK.becomes(x, "Promise 14: m itself, once", x.power(2, 0, 1, 1), 2, 0, 0);
    }

    private static void ordersFromOneToTheGreatest() {
        PlaneWholes x = of(0, 1, 0, 2, 1);
        CHECK.due("Promise 15: 1 from 1 on", x.order(0, 1), 1);
        x.set(0, 3, 1);
        CHECK.due("Promise 15: off 1 by m", x.order(0, 1), 1);
        x.set(0, -1, 0);
        CHECK.due("Promise 15: -1", x.order(0, 1), 2);
        // 315 + 26 w is of prime size 99901, and 2 takes all of 99900.
        PlaneWholes y = of(0, 2, 0, 315, 26);
        CHECK.due("Promise 15: the order of all there are", y.order(0, 1), 99900);
        CHECK.due("Promise 17: and that is how many are single", y.single(1), 99900);
    }

    private static void noOrderWithoutAnInverse() {
        PlaneWholes x = of(0, 0, 0, 1, 3);
        CHECK.stays(x, "Promise 15: of 0", () -> x.order(0, 1), NONE);
        CHECK.stays(x, "Promise 15: of m", () -> x.order(1, 1), NONE);
        x.set(0, 1, 1);
        CHECK.stays(x, "Promise 15: of a part of m", () -> x.order(0, 1), NONE);
        x.set(0, 0, 1);
        CHECK.due("Promise 15: of a unit", x.order(0, 1), 4);
    }

    private static void noInverse() {
        PlaneWholes x = of(0, 0, 0, 1, 3);
        CHECK.stays(x, "Promise 16: of 0", () -> x.inverse(2, 0, 1), NONE);
        CHECK.stays(x, "Promise 16: of m", () -> x.inverse(2, 1, 1), NONE);
        CHECK.stays(x, "Promise 16: of m, into itself", () -> x.inverse(1, 1, 1), NONE);
        x.set(0, -19999, 19999);
        CHECK.stays(x, "Promise 16: of one with a part of m", () -> x.inverse(0, 0, 1), NONE);
    }

    private static void inverseOfOne() {
        PlaneWholes x = of(0, 1, 0, 2, 1);
        CHECK.becomes(x, "Promise 16: of 1", x.inverse(2, 0, 1), 2, 1, 0);
        x.set(0, 3, 1);
        CHECK.becomes(x, "Promise 16: of one off 1 by m", x.inverse(2, 0, 1), 2, 1, 0);
        x.set(0, 7, 5);
        CHECK.becomes(x, "Promise 16: of 7 + 5 w, that is -w", x.inverse(2, 0, 1), 2, 0, 1);
    }

    private static void rootsEndAtFourHundred() {
        int[][] beyond = {{0, 20, 1}, {1, 2, -19}, {2, 3, 14}, {3, 13, 8}, {4, 11, 8}};
        int[] sizes = {401, 403, 401, 401, 401};
        for (int kind = 0; kind <= 4; kind++) {
            PlaneWholes x = of(kind, 1, 0, 20, 0);
            CHECK.due("Promise 18: by size 400 there are some", x.roots(0, 1) >= 2 ? 1 : 0, 1);
            CHECK.due("Promise 19: by size 400 there is one", x.root(2, 0, 1, 0), 0);
            x.set(1, beyond[kind][1], beyond[kind][2]);
            CHECK.due("the size of this test's m", x.size(1), sizes[kind]);
            rootsNo(x, "Promise 18 on: of size " + sizes[kind]);
            CHECK.due("Promise 17: that one is not beyond for single", x.single(1) > 0 ? 1 : 0, 1);
        }
    }

    private static void rootsOfNothing() {
        // By 3, whose size is 9, with squares: y y can be off 0, 1, -1, w, -w alone.
        PlaneWholes x = of(0, 1, 1, 3, 0);
        CHECK.due("Promise 18: of no square", x.roots(0, 1), 0);
        CHECK.stays(x, "Promise 19: there is not even the first", () -> x.root(2, 0, 1, 0), NONE);
        x.set(0, 0, 0);
        CHECK.due("Promise 18: of 0", x.roots(0, 1), 1);
        CHECK.becomes(x, "Promise 19: of 0", x.root(2, 0, 1, 0), 2, 0, 0);
        CHECK.stays(x, "Promise 19: of 0, the second", () -> x.root(2, 0, 1, 1), NONE);
    }

    private static void ranksOfRoots() {
        PlaneWholes x = of(0, 1, 0, 2, 1);
        CHECK.due("Promise 18: of 1", x.roots(0, 1), 2);
        CHECK.becomes(x, "Promise 19: the first", x.root(2, 0, 1, 0), 2, -1, 0);
        CHECK.becomes(x, "Promise 19: the last", x.root(2, 0, 1, 1), 2, 1, 0);
        CHECK.stays(x, "Promise 19: behind the last", () -> x.root(2, 0, 1, 2), NONE);
        CHECK.stays(x, "Promise 19: far behind the last", () -> x.root(2, 0, 1, Integer.MAX_VALUE), NONE);
        CHECK.stays(x, "Promise 19: ahead of the first", () -> x.root(2, 0, 1, -1), BAD);
        CHECK.stays(x, "Promise 19: far ahead of the first", () -> x.root(2, 0, 1, Integer.MIN_VALUE), BAD);
    }

    private static void rootsByAThenB() {
        // By 4 with squares RESTS have a, b from -1 to 2: a rest y has y y off 0 if a, b are even.
        PlaneWholes x = of(0, 0, 0, 4, 0);
        int[][] roots = {{0, 0}, {0, 2}, {2, 0}, {2, 2}};
        CHECK.due("Promise 18: of 0 by 4", x.roots(0, 1), 4);
        for (int i = 0; i < 4; i++) {
            CHECK.becomes(x, "Term 3: by a, then b, " + i, x.root(2, 0, 1, i), 2, roots[i][0], roots[i][1]);
        }
        // RESTS by -4 are the other way round: from -2 to 1.
        x.set(1, -4, 0);
        int[][] others = {{-2, -2}, {-2, 0}, {0, -2}, {0, 0}};
        for (int i = 0; i < 4; i++) {
            CHECK.becomes(x, "Term 3: by -4, " + i, x.root(2, 0, 1, i), 2, others[i][0], others[i][1]);
        }
    }

    private static void intoTheirOwnRegisters() {
        PlaneWholes x = of(0, 7, 5, 2, 1);
        CHECK.becomes(x, "Promise 14: into r", x.power(0, 0, 1, 1), 0, 0, -1);
        CHECK.becomes(x, "Promise 16: into r", x.inverse(0, 0, 1), 0, 0, 1);
        CHECK.becomes(x, "Promise 14: into m", x.power(1, 0, 2, 1), 1, -1, 0);
        x.set(0, 1, 0);
        x.set(1, 2, 1);
        CHECK.becomes(x, "Promise 19: into m", x.root(1, 0, 1, 0), 1, -1, 0);
        x.set(1, 2, 1);
        CHECK.becomes(x, "Promise 16: into m", x.inverse(1, 0, 1), 1, 1, 0);
    }

    private static void noRegisters() {
        PlaneWholes x = of(0, 7, 5, 2, 1);
        for (int r : Check.NO_REGISTERS) {
            CHECK.stays(x, "Promise 14: to " + r, () -> x.power(r, 0, 1, 1), BAD);
            CHECK.stays(x, "Promise 14: of " + r, () -> x.power(2, r, 1, 1), BAD);
            CHECK.stays(x, "Promise 14: by " + r, () -> x.power(2, 0, 1, r), BAD);
            CHECK.stays(x, "Promise 15: of " + r, () -> x.order(r, 1), BAD);
            CHECK.stays(x, "Promise 15: by " + r, () -> x.order(0, r), BAD);
            CHECK.stays(x, "Promise 16: to " + r, () -> x.inverse(r, 0, 1), BAD);
            CHECK.stays(x, "Promise 16: of " + r, () -> x.inverse(2, r, 1), BAD);
            CHECK.stays(x, "Promise 16: by " + r, () -> x.inverse(2, 0, r), BAD);
            CHECK.stays(x, "Promise 17: by " + r, () -> x.single(r), BAD);
            CHECK.stays(x, "Promise 18: of " + r, () -> x.roots(r, 1), BAD);
            CHECK.stays(x, "Promise 18: by " + r, () -> x.roots(0, r), BAD);
            CHECK.stays(x, "Promise 19: to " + r, () -> x.root(r, 0, 1, 0), BAD);
            CHECK.stays(x, "Promise 19: of " + r, () -> x.root(2, r, 1, 0), BAD);
            CHECK.stays(x, "Promise 19: by " + r, () -> x.root(2, 0, r, 0), BAD);
        }
        x.set(7, 2, 1);
        CHECK.due("Promise 17: by the last register", x.single(7), 4);
    }

    private static void theFirstOfSeveral() {
        PlaneWholes x = of(0, 0, 0, 1, 0);
        PlaneWholes y = of(0, 0, 0, 2, 1);
        for (int r : Check.NO_REGISTERS) {
            CHECK.stays(x, "Term 6: BAD ahead of NO", () -> x.power(r, 0, 1, 1), BAD);
            CHECK.stays(x, "Term 6: BAD ahead of NO", () -> x.order(r, 1), BAD);
            CHECK.stays(x, "Term 6: BAD ahead of NO", () -> x.inverse(r, 0, 1), BAD);
            CHECK.stays(x, "Term 6: BAD ahead of NO", () -> x.roots(r, 1), BAD);
            CHECK.stays(x, "Term 6: BAD ahead of NO", () -> x.root(r, 0, 1, 0), BAD);
            CHECK.stays(y, "Term 6: BAD ahead of NONE", () -> y.inverse(r, 0, 1), BAD);
            CHECK.stays(y, "Term 6: BAD ahead of NONE", () -> y.root(r, 0, 1, 9), BAD);
        }
        CHECK.stays(x, "Term 6: BAD ahead of NO", () -> x.power(2, 0, -1, 1), BAD);
        CHECK.stays(x, "Term 6: BAD ahead of NO", () -> x.root(2, 0, 1, -1), BAD);
        // 0 has no inverse by 1 either, but 1 is too small a number to reckon by.
        CHECK.stays(x, "Term 6: NO ahead of NONE", () -> x.order(0, 1), NO);
        CHECK.stays(x, "Term 6: NO ahead of NONE", () -> x.inverse(2, 0, 1), NO);
        CHECK.stays(x, "Term 6: NO ahead of NONE", () -> x.root(2, 0, 1, 9), NO);
    }
}
