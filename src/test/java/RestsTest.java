import java.util.List;
import java.util.Set;

/** Promises 14 to 19: power, order, inverse, single, roots, root. */
public final class RestsTest {
    private static final Check CHECK = new Check();

    public static void main(String[] args) {
        for (int kind = 0; kind < 5; kind++) {
            for (int a = -5; a <= 6; a++) {
                for (int b = -4; b <= 4; b++) {
                    by(kind, a, b);
                }
            }
            greatPowers(kind);
            farOrders(kind);
            farRoots(kind);
        }
        sizesAtTheEnds();
        edges();
        CHECK.end();
    }

    private static PlaneWholes of(int kind) {
        PlaneWholes x = new PlaneWholes();
        x.kind(kind);
        return x;
    }

    private static void by(int kind, int a, int b) {
        Plain plain = new Plain(kind);
        PlaneWholes x = of(kind);
        Plain.Num m = new Plain.Num(a, b);
        x.set(1, a, b);
        if (plain.size(m) < 2) {
            CHECK.due("power", x.power(2, 0, 1, 1), -2);
            CHECK.due("order", x.order(0, 1), -2);
            CHECK.due("inverse", x.inverse(2, 0, 1), -2);
            CHECK.due("single", x.single(1), -2);
            CHECK.due("roots", x.roots(0, 1), -2);
            CHECK.due("root", x.root(2, 0, 1, 0), -2);
            return;
        }
        Set<Plain.Num> rests = plain.rests(m);
        CHECK.due("how many rests there are", rests.size(), plain.size(m));
        int single = 0;
        for (Plain.Num r : rests) {
            Plain.Num far = Plain.plus(r, plain.times(m, new Plain.Num(a + 3, b - 2)));
            x.set(0, (int) far.a(), (int) far.b());
            single += one(x, plain, far, m) ? 1 : 0;
        }
        CHECK.due("kind " + kind + " single by " + m, x.single(1), single);
    }

    private static boolean one(PlaneWholes x, Plain plain, Plain.Num r, Plain.Num m) {
        String told = "kind " + plain.kind + " " + r + " by " + m;
        for (int k = 0; k < 7; k++) {
            Plain.Num power = plain.power(r, k, m);
            CHECK.due(told, x.power(2, 0, k, 1), 0);
            CHECK.holds(x, told + " power " + k, 2, power.a(), power.b());
        }
        CHECK.due(told + " order", x.order(0, 1), plain.order(r, m));
        Plain.Num inverse = plain.inverse(r, m);
        x.set(2, 9, 8);
        CHECK.due(told + " inverse", x.inverse(2, 0, 1), inverse == null ? -4 : 0);
        CHECK.holds(x, told + " inverse", 2, inverse == null ? 9 : inverse.a(), inverse == null ? 8 : inverse.b());
        List<Plain.Num> roots = plain.roots(r, m);
        CHECK.due(told + " roots", x.roots(0, 1), roots.size());
        for (int i = 0; i < roots.size(); i++) {
            CHECK.due(told + " root " + i, x.root(2, 0, 1, i), 0);
            CHECK.holds(x, told + " root " + i, 2, roots.get(i).a(), roots.get(i).b());
        }
        x.set(2, 9, 8);
        CHECK.due(told + " root", x.root(2, 0, 1, roots.size()), -4);
        CHECK.due(told + " root", x.root(2, 0, 1, Integer.MAX_VALUE), -4);
        CHECK.holds(x, told + " NONE changes nothing", 2, 9, 8);
        return inverse != null;
    }

    /** Powers that the plain way gets to by powers of powers. */
    private static void greatPowers(int kind) {
        Plain plain = new Plain(kind);
        PlaneWholes x = of(kind);
        Plain.Num m = new Plain.Num(150, 130);
        Plain.Num r = new Plain.Num(-19999, 20000);
        x.set(0, (int) r.a(), (int) r.b());
        x.set(1, (int) m.a(), (int) m.b());
        Plain.Num great = r;
        for (int i = 0; i < 9; i++) {
            great = plain.power(great, 10, m);
        }
        if (plain.size(m) > 100000) {
            CHECK.due("kind " + kind + " a power by too great a number", x.power(2, 0, 5, 1), -2);
            m = new Plain.Num(100, 99);
            x.set(1, 100, 99);
            great = r;
            for (int i = 0; i < 9; i++) {
                great = plain.power(great, 10, m);
            }
        }
        CHECK.due("kind " + kind + " the greatest power", x.power(2, 0, 1000000000, 1), 0);
        CHECK.holds(x, "kind " + kind + " the greatest power", 2, great.a(), great.b());
        CHECK.due("power", x.power(2, 0, 1000000001, 1), -1);
        CHECK.due("power", x.power(2, 0, -1, 1), -1);
        CHECK.due("power", x.power(2, 0, Integer.MAX_VALUE, 1), -1);
        CHECK.due("power", x.power(2, 0, Integer.MIN_VALUE, 1), -1);
        CHECK.holds(x, "BAD changes nothing", 2, great.a(), great.b());
    }

    private static void farOrders(int kind) {
        Plain plain = new Plain(kind);
        PlaneWholes x = of(kind);
        int[][] by = {{311, 0}, {0, 100}, {97, 64}, {120, -31}, {60, 60}, {2, 127}};
        int[][] of = {{2, 1}, {-1, 0}, {19999, -20000}, {7, 0}, {3, 5}, {1, 0}};
        for (int[] m : by) {
            for (int[] r : of) {
                Plain.Num base = new Plain.Num(m[0], m[1]);
                Plain.Num number = new Plain.Num(r[0], r[1]);
                x.set(0, r[0], r[1]);
                x.set(1, m[0], m[1]);
                if (plain.size(base) <= 100000) {
                    String told = "kind " + kind + " " + number + " by " + base;
                    CHECK.due(told, x.order(0, 1), plain.order(number, base));
                    int answer = x.inverse(2, 0, 1);
                    CHECK.due(told, answer, plain.order(number, base) == -4 ? -4 : 0);
                    if (answer == 0) {
                        Plain.Num inverse = new Plain.Num(x.get(2, 0), x.get(2, 1));
                        CHECK.due(told, inverse.equals(plain.rest(inverse, base)) ? 1 : 0, 1);
                        CHECK.due(told, plain.rest(plain.times(inverse, number), base)
                                .equals(plain.rest(Plain.ONE, base)) ? 1 : 0, 1);
                    }
                }
            }
        }
        x.set(1, 316, 0);
        CHECK.due("by 316", x.single(1) > 0 ? 1 : 0, 1);
        x.set(1, 317, 0);
        CHECK.due("by 317", x.single(1), -2);
        CHECK.due("by 317", x.order(0, 1), -2);
        CHECK.due("by 317", x.inverse(2, 0, 1), -2);
        CHECK.due("by 317", x.power(2, 0, 1, 1), -2);
    }

    private static void farRoots(int kind) {
        Plain plain = new Plain(kind);
        PlaneWholes x = of(kind);
        int[][] by = {{20, 0}, {0, 11}, {7, 8}, {-9, 8}, {12, 0}, {4, -10}, {19, 2}};
        for (int[] m : by) {
            Plain.Num base = new Plain.Num(m[0], m[1]);
            x.set(1, m[0], m[1]);
            for (int i = 0; i < 6; i++) {
                Plain.Num r = new Plain.Num(i == 0 ? 0 : 20000 - 4 * i, i == 1 ? 0 : i * i * 9);
                x.set(0, (int) r.a(), (int) r.b());
                if (plain.size(base) > 400) {
                    CHECK.due("kind " + kind + " roots by " + base, x.roots(0, 1), -2);
                    CHECK.due("kind " + kind + " root by " + base, x.root(2, 0, 1, 0), -2);
                    continue;
                }
                List<Plain.Num> roots = plain.roots(r, base);
                CHECK.due("kind " + kind + " roots of " + r + " by " + base, x.roots(0, 1), roots.size());
                for (int j = 0; j < roots.size(); j++) {
                    x.root(2, 0, 1, j);
                    CHECK.holds(x, "kind " + kind + " root of " + r + " by " + base, 2, roots.get(j).a(), roots.get(j).b());
                }
            }
        }
        x.set(1, 20, 0);
        CHECK.due("by 20", x.roots(0, 1) >= 0 ? 1 : 0, 1);
        x.set(1, 21, 0);
        CHECK.due("by 21", x.roots(0, 1), -2);
    }

    /** In every kind the greatest size that is taken and the least beyond it that a number has. */
    private static void sizesAtTheEnds() {
        int exact = 0;
        for (int kind = 0; kind < 5; kind++) {
            Plain plain = new Plain(kind);
            PlaneWholes x = of(kind);
            x.set(0, 3, 1);
            for (int a = -400; a <= 400; a++) {
                for (int b = 0; b <= 400; b++) {
                    long size = plain.size(new Plain.Num(a, b));
                    x.set(1, a, b);
                    if (size >= 99999 && size <= 100002) {
                        exact += size == 100000 ? 1 : 0;
                        String told = "kind " + kind + " of size " + size;
                        CHECK.due(told, x.single(1) == -2 ? 1 : 0, size > 100000 ? 1 : 0);
                        CHECK.due(told, x.order(0, 1) == -2 ? 1 : 0, size > 100000 ? 1 : 0);
                        CHECK.due(told, x.power(2, 0, 3, 1) == -2 ? 1 : 0, size > 100000 ? 1 : 0);
                        CHECK.due(told, x.inverse(2, 0, 1) == -2 ? 1 : 0, size > 100000 ? 1 : 0);
                    }
                    if (size >= 399 && size <= 403) {
                        String told = "kind " + kind + " of size " + size;
                        CHECK.due(told, x.roots(0, 1) == -2 ? 1 : 0, size > 400 ? 1 : 0);
                        CHECK.due(told, x.root(2, 0, 1, 0) == -2 ? 1 : 0, size > 400 ? 1 : 0);
                    }
                }
            }
        }
        CHECK.due("numbers of just the greatest size", exact > 0 ? 1 : 0, 1);
    }

    private static void edges() {
        PlaneWholes x = new PlaneWholes();
        x.set(0, 3, 2);
        x.set(1, 5, 2);
        x.set(2, 9, 8);
        for (int r : new int[] {-1, 8, Integer.MAX_VALUE, Integer.MIN_VALUE}) {
            CHECK.due("power", x.power(r, 0, 1, 1), -1);
            CHECK.due("power", x.power(2, r, 1, 1), -1);
            CHECK.due("power", x.power(2, 0, 1, r), -1);
            CHECK.due("power, BAD ahead of NO", x.power(r, 0, 1, 7), -1);
            CHECK.due("order", x.order(r, 1), -1);
            CHECK.due("order", x.order(0, r), -1);
            CHECK.due("inverse", x.inverse(r, 0, 1), -1);
            CHECK.due("inverse", x.inverse(2, r, 1), -1);
            CHECK.due("inverse", x.inverse(2, 0, r), -1);
            CHECK.due("inverse, BAD ahead of NONE", x.inverse(r, 7, 1), -1);
            CHECK.due("single", x.single(r), -1);
            CHECK.due("roots", x.roots(r, 1), -1);
            CHECK.due("roots", x.roots(0, r), -1);
            CHECK.due("root", x.root(r, 0, 1, 0), -1);
            CHECK.due("root", x.root(2, r, 1, 0), -1);
            CHECK.due("root", x.root(2, 0, r, 0), -1);
        }
        CHECK.due("root", x.root(2, 0, 1, -1), -1);
        CHECK.due("root, BAD ahead of NO", x.root(2, 0, 7, -1), -1);
        CHECK.due("order of 0", x.order(7, 1), -4);
        CHECK.due("inverse of 0", x.inverse(2, 7, 1), -4);
        CHECK.holds(x, "nothing changes", 2, 9, 8);
        CHECK.due("0 times by itself", x.power(2, 7, 0, 1), 0);
        CHECK.holds(x, "0 times by itself", 2, 1, 0);
        CHECK.due("power into the base", x.power(1, 0, 1, 1), 0);
        // By a number of size 2 the rest of 1 is the one whose quotient has the least a, then b.
        x.set(1, 1, 1);
        CHECK.due("power", x.power(2, 0, 0, 1), 0);
        CHECK.holds(x, "the rest of 1 by 1 + w", 2, 0, 1);
    }
}
