/** The edges that the document names for promises 10 to 13, a test for each sentence; what is due is told by hand or by Plain. */
public final class PrimeEdgesTest {
    private static final Check CHECK = new Check();
    private static final int BAD = -1, NO = -2, FULL = -3, NONE = -4;

    public static void main(String[] args) {
        unitsHaveNoParts();
        zeroHasNoParts();
        theLeastPrimes();
        eachAsOftenAsItGoesIn();
        theLeastPartFirst();
        partsEndBehindTheUnit();
        partIsFullBeyondTheRegisters();
        partIntoItself();
        partsOfNoRegister();
        ofSizeEndsAtAHundredThousand();
        withinEndsAtAMillion();
        CHECK.end();
    }

    private static PlaneWholes of(int kind, int a, int b) {
        PlaneWholes x = new PlaneWholes();
        x.kind(kind);
        x.set(0, a, b);
        x.set(1, 8, 9);
        return x;
    }

    private static void unitsHaveNoParts() {
        int[][][] units = {{{1, 0}, {0, 1}, {-1, 0}, {0, -1}}, {{1, 0}, {0, 1}, {-1, -1}, {-1, 0}, {0, -1}, {1, 1}},
            {{1, 0}, {-1, 0}}, {{1, 0}, {-1, 0}}, {{1, 0}, {-1, 0}}};
        for (int kind = 0; kind <= 4; kind++) {
            for (int[] unit : units[kind]) {
                PlaneWholes x = of(kind, unit[0], unit[1]);
                CHECK.due("Term 2: parts of a unit", x.parts(0), 0);
                CHECK.becomes(x, "Promise 11: the unit itself is left", x.part(2, 0, 0), 2, unit[0], unit[1]);
                CHECK.stays(x, "Promise 11: beyond the unit", () -> x.part(2, 0, 1), NONE);
            }
        }
    }

    private static void zeroHasNoParts() {
        for (int kind = 0; kind <= 4; kind++) {
            PlaneWholes x = of(kind, 0, 0);
            CHECK.stays(x, "Promise 10: r is 0", () -> x.parts(0), NO);
            CHECK.stays(x, "Promise 11: r is 0", () -> x.part(1, 0, 0), NO);
            CHECK.stays(x, "Promise 11: r is 0, into itself", () -> x.part(0, 0, 0), NO);
            CHECK.stays(x, "Promise 11: r is 0, whatever i", () -> x.part(1, 0, Integer.MAX_VALUE), NO);
            for (int r : Check.NO_REGISTERS) {
                CHECK.stays(x, "Term 6: BAD ahead of NO", () -> x.part(r, 0, 0), BAD);
            }
            CHECK.stays(x, "Term 6: BAD ahead of NO", () -> x.part(1, 0, -1), BAD);
        }
    }

    private static void theLeastPrimes() {
        // kind, number, its only part in shape: of the least size, and whole primes that stay primes.
        int[][] primes = {{0, -1, 1, 1, 1}, {0, -3, 0, 3, 0}, {1, 1, -1, 2, 1}, {1, -2, 0, 2, 2}, {2, 0, -1, 0, 1}, {2, 5, 0, 5, 0},
            {3, 0, -1, 0, 1}, {3, -3, 0, 3, 0}, {4, 0, -1, 0, 1}, {4, -2, 0, 2, 0}};
        for (int[] one : primes) {
            PlaneWholes x = of(one[0], one[1], one[2]);
            CHECK.due("Term 2: a prime of kind " + one[0], x.parts(0), 1);
            CHECK.becomes(x, "Term 2: a prime of kind " + one[0], x.part(1, 0, 0), 1, one[3], one[4]);
        }
    }

    private static void eachAsOftenAsItGoesIn() {
        // Size 2 to the 30th, the most parts there are: w 14 times and its mirror 16 times.
        PlaneWholes x = of(3, -16384, -16384);
        CHECK.due("Term 2: the most parts there are", x.parts(0), 30);
        for (int i = 0; i < 30; i++) {
            CHECK.becomes(x, "Term 2: part " + i, x.part(1, 0, i), 1, i < 14 ? 0 : 1, i < 14 ? 1 : -1);
        }
        CHECK.becomes(x, "Term 2: what is left", x.part(1, 0, 30), 1, 1, 0);
        CHECK.stays(x, "Promise 11: beyond", () -> x.part(1, 0, 31), NONE);
        CHECK.due("Term 2: 1 + w 29 times", of(0, 16384, 16384).parts(0), 29);
        CHECK.due("Term 2: w 29 times", of(2, 0, -16384).parts(0), 29);
        CHECK.due("Term 2: of size 3 to the 19th with triangles", of(1, 19683, -19683).parts(0), 19);
        CHECK.due("Term 2: of size 3 to the 19th in kind 4", of(4, -19683, 19683).parts(0), 19);
        CHECK.due("Term 2: 2 is a prime in kind 4", of(4, 16384, 0).parts(0), 14);
    }

    private static void theLeastPartFirst() {
        // 30 with squares: 1 + w twice, of size 5 that of the less a, then 3 of size 9.
        PlaneWholes x = of(0, 30, 0);
        int[][] parts = {{1, 1}, {1, 1}, {2, -1}, {2, 1}, {3, 0}, {0, -1}};
        CHECK.due("Term 2: parts of 30", x.parts(0), 5);
        for (int i = 0; i <= 5; i++) {
            CHECK.becomes(x, "Term 2: part " + i + " of 30", x.part(1, 0, i), 1, parts[i][0], parts[i][1]);
        }
        // 3 in kind 2: 1 - w and 1 + w are of like size and a, so b tells.
        PlaneWholes y = of(2, -3, 0);
        CHECK.becomes(y, "Term 2: of like a the less b", y.part(1, 0, 0), 1, 1, -1);
        CHECK.becomes(y, "Term 2: the greater b behind", y.part(1, 0, 1), 1, 1, 1);
        CHECK.becomes(y, "Term 2: the unit is -1", y.part(1, 0, 2), 1, -1, 0);
    }

    private static void partsEndBehindTheUnit() {
        PlaneWholes x = of(0, 7, 5);
        CHECK.due("Promise 10: 7 + 5 w", x.parts(0), 2);
        CHECK.becomes(x, "Promise 11: i is how many there are", x.part(2, 0, 2), 2, 1, 0);
        CHECK.stays(x, "Promise 11: beyond that", () -> x.part(2, 0, 3), NONE);
        CHECK.stays(x, "Promise 11: far beyond that", () -> x.part(2, 0, Integer.MAX_VALUE), NONE);
        CHECK.stays(x, "Promise 11: ahead of the first", () -> x.part(2, 0, -1), BAD);
        CHECK.stays(x, "Promise 11: far ahead of the first", () -> x.part(2, 0, Integer.MIN_VALUE), BAD);
        for (int r : Check.NO_REGISTERS) {
            CHECK.stays(x, "Promise 11: BAD also where there is none", () -> x.part(r, 0, 3), BAD);
        }
    }

    private static void partIsFullBeyondTheRegisters() {
        // In kind 3 w times 20005 - 6 w, in kind 4 w times 20003 - 3 w.
        int[][] beyond = {{3, 12, 19999}, {4, 9, 20000}};
        for (int[] one : beyond) {
            PlaneWholes x = of(one[0], one[1], one[2]);
            CHECK.due("Promise 10: a part beyond is one too", x.parts(0), 2);
            CHECK.becomes(x, "Promise 11: the part ahead of it", x.part(2, 0, 0), 2, 0, 1);
            CHECK.stays(x, "Term 1: a part beyond the registers", () -> x.part(2, 0, 1), FULL);
            CHECK.stays(x, "Term 1: and into itself", () -> x.part(0, 0, 1), FULL);
            CHECK.becomes(x, "Promise 11: the unit behind it", x.part(2, 0, 2), 2, 1, 0);
            CHECK.stays(x, "Promise 11: beyond that", () -> x.part(2, 0, 3), NONE);
            for (int r : Check.NO_REGISTERS) {
                CHECK.stays(x, "Term 6: BAD ahead of FULL", () -> x.part(r, 0, 1), BAD);
            }
        }
    }

    private static void partIntoItself() {
        PlaneWholes x = of(0, 7, 5);
        CHECK.becomes(x, "Promise 11: into itself", x.part(0, 0, 1), 0, 6, -1);
        CHECK.due("Promise 11: and that is a prime", x.parts(0), 1);
    }

    private static void partsOfNoRegister() {
        PlaneWholes x = of(0, 7, 5);
        for (int r : Check.NO_REGISTERS) {
            CHECK.stays(x, "Promise 10: parts of " + r, () -> x.parts(r), BAD);
            CHECK.stays(x, "Promise 11: part to " + r, () -> x.part(r, 0, 0), BAD);
            CHECK.stays(x, "Promise 11: part of " + r, () -> x.part(1, r, 0), BAD);
        }
        x.set(7, 1, 1);
        CHECK.due("Promise 10: parts of the last register", x.parts(7), 1);
        CHECK.becomes(x, "Promise 11: from the first to the last", x.part(7, 0, 0), 7, 1, 1);
    }

    private static void ofSizeEndsAtAHundredThousand() {
        // 100000 is 2 and 5 each to the 5th: 4 times 6 with squares; 2 or 5 stays a prime in the other nets.
        int[] greatest = {24, 0, 0, 0, 0};
        // A whole prime; by 4, 3, 8, 7, 11 it leaves 3, 1, 7, 3, 1, and so it has parts in kinds 1 and 4 alone.
        int[] prime = {0, 12, 0, 0, 4};
        int[] one = {4, 6, 2, 2, 2};
        for (int kind = 0; kind <= 4; kind++) {
            PlaneWholes x = of(kind, 1, 2);
            CHECK.due("Promise 12: of size 0, kind " + kind, x.ofSize(0), 1);
            CHECK.due("Promise 12: of size 1, kind " + kind, x.ofSize(1), one[kind]);
            CHECK.due("Promise 12: of size 99991, kind " + kind, x.ofSize(99991), prime[kind]);
            CHECK.due("Promise 12: of size 100000, kind " + kind, x.ofSize(100000), greatest[kind]);
            for (int s : new int[] {-1, 100001, Integer.MIN_VALUE, Integer.MAX_VALUE}) {
                CHECK.stays(x, "Promise 12: of size " + s, () -> x.ofSize(s), BAD);
            }
        }
    }

    private static void withinEndsAtAMillion() {
        int[] two = {9, 7, 5, 7, 3};
        for (int kind = 0; kind <= 4; kind++) {
            PlaneWholes x = of(kind, 1, 2);
            CHECK.due("Promise 13: within 0, kind " + kind, x.within(0), 1);
            CHECK.due("Promise 13: within 1, kind " + kind, x.within(1), 1 + x.ofSize(1));
            CHECK.due("Promise 13: within 2, kind " + kind, x.within(2), two[kind]);
            CHECK.due("Promise 13: within 1000000, kind " + kind, x.within(1000000), withinAMillion(new Plain(kind)));
            for (int s : new int[] {-1, 1000001, Integer.MIN_VALUE, Integer.MAX_VALUE}) {
                CHECK.stays(x, "Promise 13: within " + s, () -> x.within(s), BAD);
            }
        }
        // How many corners of squares a circle of radius 1000 has is known.
        CHECK.due("Promise 13: a circle of 1000", of(0, 0, 0).within(1000000), 3141549);
    }

    private static long withinAMillion(Plain plain) {
        long count = 0;
        for (long a = -1200; a <= 1200; a++) {
            for (long b = -1200; b <= 1200; b++) {
                count += plain.size(new Plain.Num(a, b)) <= 1000000 ? 1 : 0;
            }
        }
        return count;
    }
}
