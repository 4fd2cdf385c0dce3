/** Promises 1 to 9: a new object, kind, set, get, size, reckon, turn, makes, like. */
public final class NumbersTest {
    private static final Check CHECK = new Check();
    private static final int[] UNITS = {4, 6, 2, 2, 2};

    public static void main(String[] args) {
        newObject();
        kinds();
        setAndGet();
        sizes();
        for (int kind = 0; kind < 5; kind++) {
            reckonSmall(kind);
            reckonWide(kind);
            turns(kind);
            likes(kind);
            makings(kind);
        }
        reckonEdges();
        turnEdges();
        makesEdges();
        CHECK.end();
    }

    private static PlaneWholes of(int kind) {
        PlaneWholes x = new PlaneWholes();
        x.kind(kind);
        return x;
    }

    private static void newObject() {
        CHECK.due("BAD", PlaneWholes.BAD, -1);
        CHECK.due("NO", PlaneWholes.NO, -2);
        CHECK.due("FULL", PlaneWholes.FULL, -3);
        CHECK.due("NONE", PlaneWholes.NONE, -4);
        PlaneWholes x = new PlaneWholes();
        for (int r = 0; r < 8; r++) {
            CHECK.holds(x, "new", r, 0, 0);
            CHECK.due("size", x.size(r), 0);
        }
        x.set(0, 0, 1);
        x.reckon(1, 2, 0, 0);
        CHECK.holds(x, "a new net is of kind 0", 1, -1, 0);
    }

    private static void kinds() {
        PlaneWholes x = new PlaneWholes();
        for (int kind = 0; kind < 5; kind++) {
            for (int r = 0; r < 8; r++) {
                x.set(r, r + 1, -r);
            }
            CHECK.due("kind(" + kind + ")", x.kind(kind), UNITS[kind]);
            for (int r = 0; r < 8; r++) {
                CHECK.holds(x, "kind clears", r, 0, 0);
            }
            x.set(0, 0, 1);
            x.reckon(1, 2, 0, 0);
            Plain plain = new Plain(kind);
            CHECK.holds(x, "w w", 1, -plain.n, plain.t);
        }
        x.kind(1);
        x.set(3, 5, 6);
        for (int kind : new int[] {-1, 5, 6, Integer.MIN_VALUE, Integer.MAX_VALUE}) {
            CHECK.due("kind(" + kind + ")", x.kind(kind), -1);
        }
        CHECK.holds(x, "kind BAD changes nothing", 3, 5, 6);
        CHECK.due("kind BAD keeps the net", x.size(3), 25 - 30 + 36);
    }

    private static void setAndGet() {
        PlaneWholes x = new PlaneWholes();
        for (int part : new int[] {-20000, -19999, -1, 0, 1, 19999, 20000}) {
            CHECK.due("set", x.set(7, part, -part), 0);
            CHECK.holds(x, "set", 7, part, -part);
        }
        CHECK.due("set", x.set(0, 3, 4), 0);
        int[] far = {-20001, 20001, Integer.MIN_VALUE, Integer.MAX_VALUE};
        for (int part : far) {
            CHECK.due("set a " + part, x.set(0, part, 0), -1);
            CHECK.due("set b " + part, x.set(0, 0, part), -1);
        }
        CHECK.holds(x, "set BAD changes nothing", 0, 3, 4);
        for (int r : new int[] {-1, 8, Integer.MIN_VALUE, Integer.MAX_VALUE}) {
            CHECK.due("set", x.set(r, 1, 1), -1);
            CHECK.due("get", x.get(r, 0), -100000);
            CHECK.due("size", x.size(r), -1);
        }
        for (int what : new int[] {-1, 2, Integer.MIN_VALUE, Integer.MAX_VALUE}) {
            CHECK.due("get", x.get(0, what), -100000);
        }
    }

    private static void sizes() {
        int[] most = {800000000, 400000000, 1200000000, 1600000000, 2000000000};
        for (int kind = 0; kind < 5; kind++) {
            PlaneWholes x = of(kind);
            Plain plain = new Plain(kind);
            x.set(0, 20000, 20000);
            CHECK.due("size of the farthest, kind " + kind, x.size(0), most[kind]);
            for (int a = -9; a <= 9; a++) {
                for (int b = -9; b <= 9; b++) {
                    x.set(1, a, b);
                    CHECK.due("size " + a + " " + b, x.size(1), plain.size(new Plain.Num(a, b)));
                }
            }
        }
        PlaneWholes x = of(1);
        x.set(0, 20000, -20000);
        CHECK.due("size", x.size(0), 1200000000L);
    }

    private static void reckonSmall(int kind) {
        Plain plain = new Plain(kind);
        PlaneWholes x = of(kind);
        for (int a = -6; a <= 6; a++) {
            for (int b = -6; b <= 6; b++) {
                for (int c = -4; c <= 4; c++) {
                    for (int d = -4; d <= 4; d++) {
                        x.set(0, a, b);
                        x.set(1, c, d);
                        reckonAll(x, plain, new Plain.Num(a, b), new Plain.Num(c, d));
                    }
                }
            }
        }
        for (int a = -7; a <= 7; a += 2) {
            for (int c = -6; c <= 6; c++) {
                Plain.Num r = new Plain.Num(a, 5 - c);
                Plain.Num s = new Plain.Num(c, a / 2);
                x.set(0, (int) r.a(), (int) r.b());
                x.set(1, (int) s.a(), (int) s.b());
                x.reckon(2, 5, 0, 1);
                Plain.Num common = plain.common(r, s);
                CHECK.holds(x, "kind " + kind + " common of " + r + s, 2, common.a(), common.b());
            }
        }
    }

    private static void reckonAll(PlaneWholes x, Plain plain, Plain.Num r, Plain.Num s) {
        String told = "kind " + plain.kind + " " + r + s;
        x.reckon(2, 0, 0, 1);
        CHECK.holds(x, told + " plus", 2, r.a() + s.a(), r.b() + s.b());
        x.reckon(2, 1, 0, 1);
        CHECK.holds(x, told + " less", 2, r.a() - s.a(), r.b() - s.b());
        x.reckon(2, 2, 0, 1);
        Plain.Num product = plain.times(r, s);
        CHECK.holds(x, told + " times", 2, product.a(), product.b());
        if (s.equals(Plain.ZERO)) {
            CHECK.due(told, x.reckon(2, 3, 0, 1), -2);
            CHECK.due(told, x.reckon(2, 4, 0, 1), -2);
            return;
        }
        Plain.Num quotient = plain.quotient(r, s);
        x.reckon(2, 3, 0, 1);
        CHECK.holds(x, told + " quotient", 2, quotient.a(), quotient.b());
        Plain.Num rest = Plain.less(r, plain.times(quotient, s));
        x.reckon(2, 4, 0, 1);
        CHECK.holds(x, told + " rest", 2, rest.a(), rest.b());
    }

    /** Numbers near and far, where what is due may be FULL. */
    private static void reckonWide(int kind) {
        Plain plain = new Plain(kind);
        int[] parts = {-20000, -17321, -141, -3, -1, 0, 1, 2, 140, 9999, 19999, 20000};
        PlaneWholes x = of(kind);
        for (int a : parts) {
            for (int b : parts) {
                for (int c : parts) {
                    for (int d : parts) {
                        Plain.Num r = new Plain.Num(a, b);
                        Plain.Num s = new Plain.Num(c, d);
                        x.set(0, a, b);
                        x.set(1, c, d);
                        String told = "kind " + kind + " " + r + s;
                        answer(x, told + " plus", x.reckon(kindOf(x), 0, 0, 1), Plain.plus(r, s));
                        answer(x, told + " less", x.reckon(kindOf(x), 1, 0, 1), Plain.less(r, s));
                        answer(x, told + " times", x.reckon(kindOf(x), 2, 0, 1), plain.times(r, s));
                        if (!s.equals(Plain.ZERO)) {
                            Plain.Num z = plain.quotient(r, s);
                            answer(x, told + " quotient", x.reckon(kindOf(x), 3, 0, 1), z);
                            answer(x, told + " rest", x.reckon(kindOf(x), 4, 0, 1), Plain.less(r, plain.times(z, s)));
                        }
                        x.set(0, a, b);
                        answer(x, told + " shape", x.turn(kindOf(x), 1, 0), plain.shape(r));
                    }
                }
            }
        }
    }

    // Register 2 is told anew ahead of a call, so that a FULL that changes it shows.
    private static int kindOf(PlaneWholes x) {
        x.set(2, 77, -77);
        return 2;
    }

    private static void answer(PlaneWholes x, String call, int got, Plain.Num due) {
        boolean fits = Math.abs(due.a()) <= 20000 && Math.abs(due.b()) <= 20000;
        CHECK.due(call, got, fits ? 0 : -3);
        CHECK.holds(x, call, 2, fits ? due.a() : 77, fits ? due.b() : -77);
    }

    private static void turns(int kind) {
        Plain plain = new Plain(kind);
        PlaneWholes x = of(kind);
        for (int a = -8; a <= 8; a++) {
            for (int b = -8; b <= 8; b++) {
                Plain.Num r = new Plain.Num(a, b);
                x.set(0, a, b);
                answer(x, "kind " + kind + " mirror of " + r, x.turn(kindOf(x), 0, 0), plain.mirror(r));
                answer(x, "kind " + kind + " shape of " + r, x.turn(kindOf(x), 1, 0), plain.shape(r));
                answer(x, "kind " + kind + " w " + r, x.turn(kindOf(x), 2, 0), plain.times(r, new Plain.Num(0, 1)));
            }
        }
    }

    private static void likes(int kind) {
        Plain plain = new Plain(kind);
        PlaneWholes x = of(kind);
        for (int i = 0; i < 81 * 81; i++) {
            Plain.Num r = new Plain.Num(i % 9 - 4, i / 9 % 9 - 4);
            Plain.Num s = new Plain.Num(i / 81 % 9 - 4, i / 729 - 4);
            boolean like = false;
            for (Plain.Num unit : plain.units) {
                like |= plain.times(unit, r).equals(s);
            }
            x.set(3, (int) r.a(), (int) r.b());
            x.set(4, (int) s.a(), (int) s.b());
            CHECK.due("kind " + kind + " like " + r + s, x.like(3, 4), like ? 1 : 0);
        }
        for (int r : new int[] {-1, 8}) {
            CHECK.due("like", x.like(r, 0), -1);
            CHECK.due("like", x.like(0, r), -1);
        }
    }

    private static void reckonEdges() {
        PlaneWholes x = new PlaneWholes();
        x.set(0, 20000, 5);
        x.set(1, 1, 0);
        x.set(2, 2, 2);
        for (int r : new int[] {-1, 8, Integer.MAX_VALUE, Integer.MIN_VALUE}) {
            CHECK.due("reckon", x.reckon(r, 0, 1, 1), -1);
            CHECK.due("reckon", x.reckon(2, 0, r, 1), -1);
            CHECK.due("reckon", x.reckon(2, 0, 1, r), -1);
            CHECK.due("reckon, BAD ahead of NO", x.reckon(r, 3, 1, 7), -1);
            CHECK.due("reckon, BAD ahead of FULL", x.reckon(r, 0, 0, 1), -1);
        }
        CHECK.due("reckon", x.reckon(2, -1, 1, 1), -1);
        CHECK.due("reckon", x.reckon(2, 6, 1, 1), -1);
        CHECK.due("reckon", x.reckon(2, 3, 1, 7), -2);
        CHECK.due("reckon", x.reckon(2, 4, 1, 7), -2);
        CHECK.due("reckon", x.reckon(2, 0, 0, 1), -3);
        CHECK.holds(x, "nothing changes", 2, 2, 2);
        CHECK.due("reckon", x.reckon(2, 5, 7, 7), 0);
        CHECK.holds(x, "common of 0 and 0", 2, 0, 0);
        x.set(3, -3, 0);
        CHECK.due("reckon", x.reckon(3, 5, 3, 7), 0);
        CHECK.holds(x, "common with 0, into one of them", 3, 3, 0);
        x.set(3, 5, 5);
        CHECK.due("reckon", x.reckon(3, 1, 3, 3), 0);
        CHECK.holds(x, "less itself", 3, 0, 0);
        PlaneWholes y = of(1);
        y.set(0, 20000, -20000);
        y.set(1, 4, 4);
        CHECK.due("a common whose shape is beyond", y.reckon(1, 5, 0, 0), -3);
        CHECK.holds(y, "and the register stays", 1, 4, 4);
    }

    private static void turnEdges() {
        PlaneWholes x = of(3);
        x.set(0, 20000, 1);
        x.set(1, 8, 9);
        CHECK.due("mirror beyond", x.turn(1, 0, 0), -3);
        CHECK.holds(x, "mirror beyond", 1, 8, 9);
        x.set(0, 0, 10001);
        CHECK.due("times w beyond", x.turn(1, 2, 0), -3);
        x.set(0, 0, 10000);
        CHECK.due("times w", x.turn(0, 2, 0), 0);
        CHECK.holds(x, "times w into itself", 0, -20000, 10000);
        for (int r : new int[] {-1, 8, Integer.MAX_VALUE, Integer.MIN_VALUE}) {
            CHECK.due("turn", x.turn(r, 0, 1), -1);
            CHECK.due("turn", x.turn(1, 0, r), -1);
        }
        CHECK.due("turn", x.turn(1, -1, 1), -1);
        CHECK.due("turn", x.turn(1, 3, 1), -1);
        CHECK.holds(x, "turn BAD", 1, 8, 9);
        PlaneWholes y = of(1);
        y.set(0, 1, 0);
        y.turn(0, 1, 0);
        CHECK.holds(y, "the shape of 1 in the net of triangles", 0, 1, 1);
        y.set(0, 20000, -1);
        CHECK.due("shape beyond", y.turn(1, 1, 0), -3);
        y.set(0, 0, 20000);
        CHECK.due("w w is less 1 and w", y.turn(1, 2, 0), 0);
        CHECK.holds(y, "w w", 1, -20000, -20000);
    }

    /** The steps as the document tells them, with the quotients of the plain way. */
    private static Plain.Num[] made(Plain plain, Plain.Num r, Plain.Num s) {
        Plain.Num[] x = {r, Plain.ONE, Plain.ZERO};
        Plain.Num[] y = {s, Plain.ZERO, Plain.ONE};
        while (!y[0].equals(Plain.ZERO)) {
            Plain.Num q = plain.quotient(x[0], y[0]);
            Plain.Num[] z = new Plain.Num[3];
            for (int i = 0; i < 3; i++) {
                z[i] = Plain.less(x[i], plain.times(q, y[i]));
            }
            x = y;
            y = z;
        }
        for (Plain.Num unit : plain.units) {
            if (plain.times(unit, x[0]).equals(plain.shape(x[0]))) {
                return new Plain.Num[] {plain.times(unit, x[0]), plain.times(unit, x[1]), plain.times(unit, x[2])};
            }
        }
        return null;
    }

    private static void makings(int kind) {
        Plain plain = new Plain(kind);
        PlaneWholes x = of(kind);
        int[] parts = {-20000, -16543, -777, -12, -3, 0, 1, 5, 14, 1000, 12345, 19999};
        for (int a : parts) {
            for (int b : parts) {
                for (int c : parts) {
                    for (int d : parts) {
                        Plain.Num r = new Plain.Num(a, b);
                        Plain.Num s = new Plain.Num(c, d);
                        if (!r.equals(Plain.ZERO) || !s.equals(Plain.ZERO)) {
                            x.set(0, a, b);
                            x.set(1, c, d);
                            oneMaking(x, plain, r, s);
                        }
                    }
                }
            }
        }
    }

    private static void oneMaking(PlaneWholes x, Plain plain, Plain.Num r, Plain.Num s) {
        Plain.Num[] made = made(plain, r, s);
        String told = "kind " + plain.kind + " makes of " + r + s;
        boolean fits = true;
        for (int i = 1; i < 3; i++) {
            fits &= Math.abs(made[i].a()) <= 20000 && Math.abs(made[i].b()) <= 20000;
        }
        x.set(2, 6, 7);
        x.set(3, 8, 9);
        CHECK.due(told, x.makes(2, 3, 0, 1), fits ? 0 : -3);
        CHECK.holds(x, told + " u", 2, fits ? made[1].a() : 6, fits ? made[1].b() : 7);
        CHECK.holds(x, told + " v", 3, fits ? made[2].a() : 8, fits ? made[2].b() : 9);
        boolean told2 = Math.abs(made[0].a()) <= 20000 && Math.abs(made[0].b()) <= 20000;
        CHECK.due(told + " common", x.reckon(4, 5, 0, 1), told2 ? 0 : -3);
        if (told2) {
            CHECK.holds(x, told + " common", 4, made[0].a(), made[0].b());
        }
        Plain.Num sum = Plain.plus(plain.times(made[1], r), plain.times(made[2], s));
        CHECK.due(told + " sums", sum.equals(made[0]) ? 1 : 0, 1);
    }

    private static void makesEdges() {
        PlaneWholes x = of(0);
        x.set(0, 7, 5);
        x.set(1, 2, 1);
        x.set(2, 3, 3);
        for (int r : new int[] {-1, 8, Integer.MAX_VALUE, Integer.MIN_VALUE}) {
            CHECK.due("makes", x.makes(r, 2, 0, 1), -1);
            CHECK.due("makes", x.makes(2, r, 0, 1), -1);
            CHECK.due("makes", x.makes(2, 2, r, 1), -1);
            CHECK.due("makes", x.makes(2, 2, 0, r), -1);
            CHECK.due("makes, BAD ahead of NO", x.makes(2, r, 6, 7), -1);
        }
        CHECK.due("makes of 0 and 0", x.makes(2, 2, 6, 7), -2);
        CHECK.holds(x, "nothing changes", 2, 3, 3);
        CHECK.due("makes", x.makes(2, 2, 0, 1), 0);
        Plain.Num[] made = made(new Plain(0), new Plain.Num(7, 5), new Plain.Num(2, 1));
        CHECK.holds(x, "the same register: v", 2, made[2].a(), made[2].b());
        CHECK.due("makes into what it is made of", x.makes(1, 0, 0, 1), 0);
        CHECK.holds(x, "u", 1, made[1].a(), made[1].b());
        CHECK.holds(x, "v", 0, made[2].a(), made[2].b());
        x.set(0, -5, 0);
        CHECK.due("makes with 0", x.makes(1, 2, 0, 7), 0);
        CHECK.holds(x, "u with 0", 1, -1, 0);
        CHECK.holds(x, "v with 0", 2, 0, 0);
    }
}
