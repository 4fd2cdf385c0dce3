/** The edges that the document names for promises 1 to 9, a test for each sentence; what is due is told by hand or by Plain. */
public final class NumberEdgesTest {
    private static final Check CHECK = new Check();
    private static final int BAD = -1, NO = -2, FULL = -3;

    public static void main(String[] args) {
        the512thCallAnswers();
        newObjectIsOfKindZeroAndEmpty();
        kindsEndAtFour();
        kindEmptiesAllRegisters();
        registersEndAtSeven();
        partsEndAtTwentyThousand();
        getTellsTwoParts();
        sizesFromNoneToTheGreatest();
        sumIsFullBeyondTheRegisters();
        differenceIsFullBeyondTheRegisters();
        productIsFullBeyondTheRegisters();
        quotientIsFullBeyondTheRegisters();
        restIsFullBeyondTheRegisters();
        commonIsFullBeyondTheRegisters();
        ofSeveralQuotientsTheLeast();
        quotientByZeroIsNo();
        commonOfZeros();
        reckonKnowsSixWays();
        reckonTellsTheFirstOfSeveral();
        reckonIntoItself();
        mirrorIsFullBeyondTheRegisters();
        shapeIsFullBeyondTheRegisters();
        timesWIsFullBeyondTheRegisters();
        shapeOfZero();
        turnKnowsThreeWays();
        makesOfZeros();
        makesIntoOneRegister();
        makesIsFullBeyondTheRegisters();
        makesTellsTheFirstOfSeveral();
        likeOfZeros();
        likeIsNotOfTheSameSizeAlone();
        CHECK.end();
    }

    private static PlaneWholes of(int kind) {
        PlaneWholes x = new PlaneWholes();
        x.kind(kind);
        return x;
    }

    /** Registers 0 to 2 are told, 3 has a b that shows the net. */
    private static PlaneWholes of(int kind, int a, int b, int c, int d) {
        PlaneWholes x = of(kind);
        x.set(0, a, b);
        x.set(1, c, d);
        x.set(2, 77, -78);
        x.set(3, 5, 7);
        return x;
    }

    private static void the512thCallAnswers() {
        PlaneWholes x = new PlaneWholes();
        for (int call = 1; call <= 510; call++) {
            CHECK.due("call " + call, x.set(call % 8, call, -call), 0);
        }
        CHECK.due("call 511", x.get(510 % 8, 1), -510);
        CHECK.due("call 512", x.kind(4), 2);
    }

    private static void newObjectIsOfKindZeroAndEmpty() {
        PlaneWholes x = new PlaneWholes();
        for (int r = 0; r <= 7; r++) {
            CHECK.holds(x, "Promise 1: a new register " + r, r, 0, 0);
        }
        x.set(7, 0, 1);
        CHECK.becomes(x, "Promise 1: w w is -1 in a new object", x.reckon(0, 2, 7, 7), 0, -1, 0);
    }

    private static void kindsEndAtFour() {
        int[] units = {4, 6, 2, 2, 2};
        int[] sizeOfW = {1, 1, 2, 2, 3};
        int[] sizeOfOneAndW = {2, 1, 3, 4, 5};
        for (int kind = 0; kind <= 4; kind++) {
            PlaneWholes x = new PlaneWholes();
            CHECK.due("Promise 2: units of kind " + kind, x.kind(kind), units[kind]);
            x.set(0, 0, 1);
            x.set(1, 1, 1);
            CHECK.due("Term 1: n of kind " + kind, x.size(0), sizeOfW[kind]);
            CHECK.due("Term 1: t of kind " + kind, x.size(1), sizeOfOneAndW[kind]);
            for (int beyond : new int[] {-1, 5, Integer.MIN_VALUE, Integer.MAX_VALUE}) {
                CHECK.stays(x, "Promise 2: kind " + beyond, () -> x.kind(beyond), BAD);
            }
        }
    }

    private static void kindEmptiesAllRegisters() {
        for (int kind = 0; kind <= 4; kind++) {
            PlaneWholes x = of(kind);
            for (int r = 0; r <= 7; r++) {
                x.set(r, r + 1, 20000);
            }
            x.kind(kind);
            for (int r = 0; r <= 7; r++) {
                CHECK.holds(x, "Promise 2: also by the kind that it is", r, 0, 0);
            }
        }
    }

    private static void registersEndAtSeven() {
        PlaneWholes x = of(1, 8, 3, 2, 1);
        for (int r : new int[] {0, 7}) {
            CHECK.becomes(x, "Term 1: register " + r, x.set(r, 4, 9), r, 4, 9);
            CHECK.due("Term 1: size of " + r, x.size(r), 16 - 36 + 81);
            CHECK.becomes(x, "Term 1: reckon with " + r, x.reckon(r, 0, r, r), r, 8, 18);
            CHECK.becomes(x, "Term 1: turn of " + r, x.turn(r, 0, r), r, -10, -18);
            CHECK.due("Term 1: like of " + r, x.like(r, r), 1);
            CHECK.due("Term 1: makes with " + r, x.makes(r, r, r, r), 0);
        }
        for (int r : Check.NO_REGISTERS) {
            CHECK.stays(x, "Promise 3: set of " + r, () -> x.set(r, 1, 1), BAD);
            CHECK.stays(x, "Promise 4: get of " + r, () -> x.get(r, 0), -100000);
            CHECK.stays(x, "Promise 4: get of " + r, () -> x.get(r, 1), -100000);
            CHECK.stays(x, "Promise 5: size of " + r, () -> x.size(r), BAD);
            for (int what = 0; what <= 5; what++) {
                int way = what;
                CHECK.stays(x, "Promise 6: reckon to " + r, () -> x.reckon(r, way, 0, 1), BAD);
                CHECK.stays(x, "Promise 6: reckon of " + r, () -> x.reckon(2, way, r, 1), BAD);
                CHECK.stays(x, "Promise 6: reckon by " + r, () -> x.reckon(2, way, 0, r), BAD);
            }
            for (int what = 0; what <= 2; what++) {
                int way = what;
                CHECK.stays(x, "Promise 7: turn to " + r, () -> x.turn(r, way, 0), BAD);
                CHECK.stays(x, "Promise 7: turn of " + r, () -> x.turn(2, way, r), BAD);
            }
            CHECK.stays(x, "Promise 8: makes to " + r, () -> x.makes(r, 2, 0, 1), BAD);
            CHECK.stays(x, "Promise 8: makes to " + r, () -> x.makes(2, r, 0, 1), BAD);
            CHECK.stays(x, "Promise 8: makes of " + r, () -> x.makes(2, 4, r, 1), BAD);
            CHECK.stays(x, "Promise 8: makes of " + r, () -> x.makes(2, 4, 0, r), BAD);
            CHECK.stays(x, "Promise 9: like of " + r, () -> x.like(r, 0), BAD);
            CHECK.stays(x, "Promise 9: like to " + r, () -> x.like(0, r), BAD);
        }
    }

    private static void partsEndAtTwentyThousand() {
        PlaneWholes x = of(2, 3, 4, 5, 6);
        CHECK.becomes(x, "Promise 3: the least", x.set(0, -20000, -20000), 0, -20000, -20000);
        CHECK.becomes(x, "Promise 3: the greatest", x.set(0, 20000, 20000), 0, 20000, 20000);
        for (int far : new int[] {-20001, 20001, Integer.MIN_VALUE, Integer.MAX_VALUE}) {
            CHECK.stays(x, "Promise 3: a is " + far, () -> x.set(1, far, 1), BAD);
            CHECK.stays(x, "Promise 3: b is " + far, () -> x.set(1, 1, far), BAD);
        }
    }

    private static void getTellsTwoParts() {
        PlaneWholes x = of(0, -1, -4, 0, 0);
        CHECK.due("Promise 4: a that is as BAD", x.get(0, 0), -1);
        CHECK.due("Promise 4: b that is as NONE", x.get(0, 1), -4);
        for (int what : new int[] {-1, 2, Integer.MIN_VALUE, Integer.MAX_VALUE}) {
            CHECK.stays(x, "Promise 4: get " + what, () -> x.get(0, what), -100000);
        }
    }

    private static void sizesFromNoneToTheGreatest() {
        PlaneWholes x = of(4, 20000, 20000, 0, 0);
        CHECK.due("Promise 5: size of 0", x.size(1), 0);
        CHECK.due("Promise 5: the greatest size of all", x.size(0), 2000000000L);
        x.set(0, -20000, -20000);
        CHECK.due("Promise 5: the same of less it", x.size(0), 2000000000L);
        x.kind(1);
        x.set(0, -20000, 20000);
        CHECK.due("Promise 5: the greatest with triangles", x.size(0), 1200000000L);
    }

    private static void sumIsFullBeyondTheRegisters() {
        PlaneWholes x = of(0, 19999, -19999, 1, -1);
        CHECK.becomes(x, "Promise 6: together just within", x.reckon(2, 0, 0, 1), 2, 20000, -20000);
        for (int[] s : new int[][] {{2, 0}, {0, -2}, {2, -2}}) {
            x.set(1, s[0], s[1]);
            CHECK.stays(x, "Promise 6: together beyond", () -> x.reckon(2, 0, 0, 1), FULL);
        }
        x.set(0, -20000, 20000);
        x.set(1, -20000, 20000);
        CHECK.stays(x, "Promise 6: together far beyond", () -> x.reckon(0, 0, 0, 1), FULL);
    }

    private static void differenceIsFullBeyondTheRegisters() {
        PlaneWholes x = of(0, 19999, -19999, -1, 1);
        CHECK.becomes(x, "Promise 6: less just within", x.reckon(2, 1, 0, 1), 2, 20000, -20000);
        for (int[] s : new int[][] {{-2, 0}, {0, 2}, {-2, 2}}) {
            x.set(1, s[0], s[1]);
            CHECK.stays(x, "Promise 6: less beyond", () -> x.reckon(2, 1, 0, 1), FULL);
        }
        x.set(0, -20000, 20000);
        x.set(1, 20000, -20000);
        CHECK.stays(x, "Promise 6: less far beyond", () -> x.reckon(0, 1, 0, 1), FULL);
    }

    private static void productIsFullBeyondTheRegisters() {
        PlaneWholes x = of(4, 200, 0, 100, -100);
        CHECK.becomes(x, "Promise 6: times just within", x.reckon(2, 2, 0, 1), 2, 20000, -20000);
        x.set(0, 67, 1);
        x.set(1, -299, 0);
        CHECK.stays(x, "Promise 6: times, a beyond by 33", () -> x.reckon(2, 2, 0, 1), FULL);
        x.set(0, 0, 59);
        x.set(1, 339, 0);
        CHECK.stays(x, "Promise 6: times, b beyond by 1", () -> x.reckon(2, 2, 0, 1), FULL);
        x.set(0, 59, 0);
        CHECK.stays(x, "Promise 6: times, a beyond by 1", () -> x.reckon(2, 2, 0, 1), FULL);
        // 65536 times 65536 is 0 for an int; the farthest here is 1600000000.
        for (int a : new int[] {-20000, -16384, 16384, 20000}) {
            x.set(0, a, 16384);
            x.set(1, 16384, a);
            CHECK.stays(x, "Promise 6: times far beyond", () -> x.reckon(2, 2, 0, 1), FULL);
        }
        x.set(0, 20000, 20000);
        x.set(1, 0, 0);
        CHECK.becomes(x, "Promise 6: times 0", x.reckon(2, 2, 0, 1), 2, 0, 0);
    }

    private static void quotientIsFullBeyondTheRegisters() {
        // By w with triangles: (b - a) - a w.
        PlaneWholes x = of(1, 20000, 0, 0, 1);
        CHECK.becomes(x, "Promise 6: by w just within", x.reckon(2, 3, 0, 1), 2, -20000, -20000);
        x.set(0, 20000, -1);
        CHECK.stays(x, "Promise 6: by w beyond", () -> x.reckon(2, 3, 0, 1), FULL);
        // By w in kind 3: half of (a + 2 b) - a w.
        PlaneWholes y = of(3, 20000, 10000, 0, 1);
        CHECK.becomes(y, "Promise 6: by w of size 2 just within", y.reckon(2, 3, 0, 1), 2, 20000, -10000);
        y.set(0, 20000, 10001);
        CHECK.stays(y, "Promise 6: by w of size 2 beyond", () -> y.reckon(2, 3, 0, 1), FULL);
    }

    private static void restIsFullBeyondTheRegisters() {
        PlaneWholes x = of(0, -20000, 0, -20000, 20000);
        CHECK.becomes(x, "Promise 6: a rest just within", x.reckon(2, 4, 0, 1), 2, -20000, 0);
        // 10000 + 16156 w less -10001 + 20000 w: 20001 is the least size's a.
        PlaneWholes y = of(2, 10000, 16156, -10001, 20000);
        CHECK.becomes(y, "Promise 6: its quotient is 1", y.reckon(4, 3, 0, 1), 4, 1, 0);
        CHECK.stays(y, "Promise 6: a rest beyond", () -> y.reckon(2, 4, 0, 1), FULL);
        CHECK.stays(y, "Promise 6: the same by less", () -> y.reckon(2, 1, 0, 1), FULL);
    }

    private static void commonIsFullBeyondTheRegisters() {
        PlaneWholes x = of(1, 20000, 0, 0, 0);
        CHECK.becomes(x, "Promise 6: a shape just within", x.reckon(2, 5, 0, 1), 2, 20000, 20000);
        x.set(0, 20000, -1);
        CHECK.stays(x, "Promise 6: a shape beyond", () -> x.reckon(2, 5, 0, 1), FULL);
        CHECK.stays(x, "Promise 6: a shape beyond, of two", () -> x.reckon(2, 5, 0, 0), FULL);
        CHECK.stays(x, "Promise 6: a shape beyond, into itself", () -> x.reckon(0, 5, 1, 0), FULL);
    }

    private static void ofSeveralQuotientsTheLeast() {
        // x, y, quotient: x by y lies as near to two, three, four numbers.
        int[][] squares = {{1, 0, 2, 0, 0, 0}, {-1, 0, 2, 0, -1, 0}, {0, 1, 2, 0, 0, 0}, {0, -1, 2, 0, 0, -1}, {1, 1, 2, 0, 0, 0},
            {-1, 1, 2, 0, -1, 0}, {1, -1, 2, 0, 0, -1}, {-1, -1, 2, 0, -1, -1}, {1, 0, 1, 1, 0, -1}};
        int[][] triangles = {{2, 1, 3, 0, 0, 0}, {1, 2, 3, 0, 0, 0}, {1, -1, 3, 0, 0, -1}, {1, 1, 2, 0, 0, 0}};
        int[][] twos = {{1, 1, 2, 0, 0, 0}, {0, 1, 2, 0, 0, 0}, {1, -1, 2, 0, 0, -1}};
        int[][] sevens = {{2, 3, 7, 0, 0, 0}, {5, 4, 7, 0, 0, 1}, {0, 1, 2, 0, 0, 0}};
        int[][] elevens = {{3, 5, 11, 0, 0, 0}, {8, 6, 11, 0, 0, 1}, {0, -1, 2, 0, 0, -1}};
        int[][][] all = {squares, triangles, twos, sevens, elevens};
        for (int kind = 0; kind <= 4; kind++) {
            for (int[] one : all[kind]) {
                PlaneWholes x = of(kind, one[0], one[1], one[2], one[3]);
                String told = "Term 1: kind " + kind + ", " + one[0] + " " + one[1] + " by " + one[2] + " " + one[3];
                CHECK.becomes(x, told, x.reckon(2, 3, 0, 1), 2, one[4], one[5]);
            }
        }
    }

    private static void quotientByZeroIsNo() {
        PlaneWholes x = of(0, 7, 5, 0, 0);
        for (int what : new int[] {3, 4}) {
            CHECK.stays(x, "Promise 6: by 0", () -> x.reckon(2, what, 0, 1), NO);
            CHECK.stays(x, "Promise 6: 0 by 0", () -> x.reckon(2, what, 1, 1), NO);
        }
        CHECK.becomes(x, "Promise 6: 0 by what is not 0", x.reckon(2, 3, 1, 0), 2, 0, 0);
        CHECK.becomes(x, "Promise 6: rest of 0", x.reckon(2, 4, 1, 0), 2, 0, 0);
        CHECK.becomes(x, "Promise 6: together with 0", x.reckon(2, 0, 0, 1), 2, 7, 5);
        CHECK.becomes(x, "Promise 6: less 0", x.reckon(2, 1, 0, 1), 2, 7, 5);
        CHECK.becomes(x, "Promise 6: times 0", x.reckon(2, 2, 0, 1), 2, 0, 0);
    }

    private static void commonOfZeros() {
        PlaneWholes x = of(0, -7, 5, 0, 0);
        CHECK.becomes(x, "Term 1: common of 0 and 0", x.reckon(2, 5, 1, 1), 2, 0, 0);
        CHECK.becomes(x, "Term 1: common with 0 is the shape", x.reckon(2, 5, 0, 1), 2, 7, -5);
        CHECK.becomes(x, "Term 1: common of 0 with it", x.reckon(2, 5, 1, 0), 2, 7, -5);
        x.set(1, 0, -1);
        CHECK.becomes(x, "Term 1: common with a unit", x.reckon(2, 5, 0, 1), 2, 1, 0);
    }

    private static void reckonKnowsSixWays() {
        PlaneWholes x = of(1, 7, 5, 2, 1);
        for (int what : new int[] {-1, 6, Integer.MIN_VALUE, Integer.MAX_VALUE}) {
            CHECK.stays(x, "Promise 6: what is " + what, () -> x.reckon(2, what, 0, 1), BAD);
        }
    }

    private static void reckonTellsTheFirstOfSeveral() {
        PlaneWholes x = of(0, 20000, 0, 0, 0);
        for (int r : Check.NO_REGISTERS) {
            CHECK.stays(x, "Term 6: BAD ahead of NO", () -> x.reckon(r, 3, 0, 1), BAD);
            CHECK.stays(x, "Term 6: BAD ahead of NO", () -> x.reckon(2, 4, r, 1), BAD);
            CHECK.stays(x, "Term 6: BAD ahead of FULL", () -> x.reckon(r, 0, 0, 0), BAD);
        }
    }

    private static void reckonIntoItself() {
        PlaneWholes x = of(0, 7, 5, 2, 1);
        CHECK.becomes(x, "Promise 6: r becomes its quotient", x.reckon(0, 3, 0, 1), 0, 4, 1);
        CHECK.becomes(x, "Promise 6: s becomes the product", x.reckon(1, 2, 0, 1), 1, 7, 6);
        CHECK.becomes(x, "Promise 6: all three are one", x.reckon(1, 1, 1, 1), 1, 0, 0);
    }

    private static void mirrorIsFullBeyondTheRegisters() {
        PlaneWholes x = of(3, 19999, 1, -19999, -1);
        CHECK.becomes(x, "Promise 7: mirror just within", x.turn(2, 0, 0), 2, 20000, -1);
        CHECK.becomes(x, "Promise 7: mirror just within", x.turn(2, 0, 1), 2, -20000, 1);
        x.set(0, 20000, 1);
        x.set(1, -20000, -1);
        CHECK.stays(x, "Promise 7: mirror beyond", () -> x.turn(2, 0, 0), FULL);
        CHECK.stays(x, "Promise 7: mirror beyond, into itself", () -> x.turn(1, 0, 1), FULL);
        PlaneWholes y = of(1, 20000, -1, 0, -20000);
        CHECK.stays(y, "Promise 7: mirror beyond with triangles", () -> y.turn(2, 0, 0), FULL);
        CHECK.becomes(y, "Promise 7: mirror just within with triangles", y.turn(2, 0, 1), 2, 20000, 20000);
        PlaneWholes z = of(2, 20000, 20000, 0, 0);
        CHECK.becomes(z, "Promise 7: mirror of the farthest where t is 0", z.turn(2, 0, 0), 2, 20000, -20000);
    }

    private static void shapeIsFullBeyondTheRegisters() {
        PlaneWholes x = of(1, 20000, 0, 20000, -1);
        CHECK.becomes(x, "Promise 7: shape just within", x.turn(2, 1, 0), 2, 20000, 20000);
        CHECK.stays(x, "Promise 7: shape beyond", () -> x.turn(2, 1, 1), FULL);
        for (int kind : new int[] {0, 2, 3, 4}) {
            PlaneWholes y = of(kind, -20000, 20000, -20000, -20000);
            CHECK.becomes(y, "Promise 7: shape of a corner, kind " + kind, y.turn(2, 1, 0), 2, 20000, kind == 0 ? 20000 : -20000);
            CHECK.becomes(y, "Promise 7: shape of a corner, kind " + kind, y.turn(2, 1, 1), 2, 20000, 20000);
        }
    }

    private static void timesWIsFullBeyondTheRegisters() {
        // In kind 4 times w is -3 b + (a + b) w.
        PlaneWholes x = of(4, 13334, 6666, 0, 6667);
        CHECK.becomes(x, "Promise 7: times w just within", x.turn(2, 2, 0), 2, -19998, 20000);
        CHECK.stays(x, "Promise 7: times w, a beyond by 1", () -> x.turn(2, 2, 1), FULL);
        x.set(1, 13335, 6666);
        CHECK.stays(x, "Promise 7: times w, b beyond by 1", () -> x.turn(2, 2, 1), FULL);
        x.set(1, 0, -6667);
        CHECK.stays(x, "Promise 7: times w, a beyond below", () -> x.turn(1, 2, 1), FULL);
        PlaneWholes y = of(0, 20000, -20000, 0, 0);
        CHECK.becomes(y, "Promise 7: times w of a corner of squares", y.turn(0, 2, 0), 0, 20000, 20000);
    }

    private static void shapeOfZero() {
        for (int kind = 0; kind <= 4; kind++) {
            PlaneWholes x = of(kind, 0, 0, 0, 0);
            for (int what = 0; what <= 2; what++) {
                x.set(2, 1, 1);
                CHECK.becomes(x, "Promise 7: turn of 0", x.turn(2, what, 0), 2, 0, 0);
            }
        }
    }

    private static void turnKnowsThreeWays() {
        PlaneWholes x = of(1, 20000, -1, 0, 0);
        for (int what : new int[] {-1, 3, Integer.MIN_VALUE, Integer.MAX_VALUE}) {
            CHECK.stays(x, "Promise 7: what is " + what, () -> x.turn(2, what, 0), BAD);
        }
        for (int r : Check.NO_REGISTERS) {
            CHECK.stays(x, "Term 6: BAD ahead of FULL", () -> x.turn(r, 1, 0), BAD);
        }
    }

    private static void makesOfZeros() {
        PlaneWholes x = of(0, 0, -5, 0, 0);
        CHECK.stays(x, "Promise 8: both are 0", () -> x.makes(2, 3, 1, 1), NO);
        CHECK.stays(x, "Promise 8: both are 0, of two registers", () -> x.makes(2, 3, 1, 6), NO);
        // The step from (0; 1, 0): the second becomes the first; w brings -5 w to 5.
        CHECK.becomes(x, "Promise 8: s is 0, u", x.makes(2, 3, 0, 1), 2, 0, 1);
        CHECK.holds(x, "Promise 8: s is 0, v", 3, 0, 0);
        CHECK.becomes(x, "Promise 8: r is 0, u", x.makes(2, 3, 1, 0), 2, 0, 0);
        CHECK.holds(x, "Promise 8: r is 0, v", 3, 0, 1);
    }

    private static void makesIntoOneRegister() {
        // 7 + 5 w, 2 + w: quotient 4 + w, rest -w; then -1 + 2 w, rest 0. u 1, v -4 - w, by w: u w, v 1 - 4 w.
        PlaneWholes x = of(0, 7, 5, 2, 1);
        CHECK.becomes(x, "Promise 8: the same register: v", x.makes(2, 2, 0, 1), 2, 1, -4);
        CHECK.becomes(x, "Promise 8: into what it is made of, u", x.makes(1, 0, 0, 1), 1, 0, 1);
        CHECK.holds(x, "Promise 8: into what it is made of, v", 0, 1, -4);
        x.set(0, 3, 3);
        CHECK.becomes(x, "Promise 8: all four are one", x.makes(0, 0, 0, 0), 0, 1, 0);
    }

    private static void makesIsFullBeyondTheRegisters() {
        // r, s and which of u and v is beyond, as the steps with the plain quotients tell.
        PlaneWholes within = of(0, 20000, -9556, 14875, -20000);
        CHECK.due("Promise 8: just within", within.makes(2, 3, 0, 1), 0);
        CHECK.due("Promise 8: u just within", within.get(2, 0), -20000);
        int[][] beyond = {{0, 9401, -13333, -20000, 19999}, {0, -19061, 16856, 7668, 6667}, {0, -17180, 19473, -19058, 13333},
            {1, -12072, 19999, -20000, 16919}, {1, -16388, 19999, -3, 2}, {2, 12045, 3641, 4615, 17210}, {2, -11264, 19999, 3, 1},
            {3, 11349, 10001, -18450, 17321}, {3, 5355, -20000, 15431, 13400}, {4, 15247, -2706, 18337, -20000}, {4, 12932, -20000, 3, -1}};
        for (int[] one : beyond) {
            PlaneWholes x = of(one[0], one[1], one[2], one[3], one[4]);
            CHECK.stays(x, "Promise 8: beyond, kind " + one[0], () -> x.makes(2, 3, 0, 1), FULL);
            CHECK.stays(x, "Promise 8: beyond, into r and s", () -> x.makes(0, 1, 0, 1), FULL);
        }
    }

    private static void makesTellsTheFirstOfSeveral() {
        PlaneWholes x = of(0, 9401, -13333, -20000, 19999);
        for (int r : Check.NO_REGISTERS) {
            CHECK.stays(x, "Term 6: BAD ahead of NO", () -> x.makes(r, 2, 6, 7), BAD);
            CHECK.stays(x, "Term 6: BAD ahead of NO", () -> x.makes(2, r, 6, 7), BAD);
            CHECK.stays(x, "Term 6: BAD ahead of FULL", () -> x.makes(r, 2, 0, 1), BAD);
            CHECK.stays(x, "Term 6: BAD ahead of FULL", () -> x.makes(2, r, 0, 1), BAD);
        }
    }

    private static void likeOfZeros() {
        for (int kind = 0; kind <= 4; kind++) {
            PlaneWholes x = of(kind, 0, 0, 1, 0);
            CHECK.due("Promise 9: 0 and 0", x.like(0, 7), 1);
            CHECK.due("Promise 9: 0 and 1", x.like(0, 1), 0);
            CHECK.due("Promise 9: 1 and 0", x.like(1, 0), 0);
            CHECK.due("Promise 9: it and itself", x.like(1, 1), 1);
        }
    }

    private static void likeIsNotOfTheSameSizeAlone() {
        PlaneWholes x = of(0, 1, 2, 2, 1);
        CHECK.due("Promise 9: a number and its mirror's like", x.like(0, 1), 0);
        x.set(1, -2, 1);
        CHECK.due("Promise 9: times w", x.like(0, 1), 1);
        PlaneWholes y = of(1, 20000, -20000, 20000, 20000);
        CHECK.due("Promise 9: of shapes beyond the registers", y.like(0, 1), 0);
        y.set(1, -20000, 20000);
        CHECK.due("Promise 9: of shapes beyond the registers", y.like(0, 1), 1);
        PlaneWholes z = of(2, 0, 5, 5, 0);
        CHECK.due("Promise 9: w is no unit there", z.like(0, 1), 0);
    }
}
