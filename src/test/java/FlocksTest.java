import java.util.ArrayList;
import java.util.List;

/** Promises 23 to 27: flocks, flock, has, joined, turned. */
public final class FlocksTest {
    private static final Check CHECK = new Check();

    public static void main(String[] args) {
        for (int kind = 0; kind < 5; kind++) {
            for (int n = 1; n <= 24; n++) {
                ofIndex(kind, n);
            }
            ofIndex(kind, 49);
            ofIndex(kind, 144);
            ofIndex(kind, 199);
            ofIndex(kind, 200);
            haves(kind);
            turns(kind);
        }
        joins();
        farJoins();
        farTurns();
        edges();
        CHECK.end();
    }

    private static PlaneWholes of(int kind) {
        PlaneWholes x = new PlaneWholes();
        x.kind(kind);
        return x;
    }

    private static void ofIndex(int kind, int n) {
        Plain plain = new Plain(kind);
        PlaneWholes x = of(kind);
        List<Plain.Num> near = plain.upTo(2 * n + 2);
        int rank = 0;
        int closed = 0;
        for (int q = 1; q <= n; q++) {
            for (int r = 0; n % q == 0 && r < n / q; r++) {
                String told = "kind " + kind + " flock " + n + " " + rank;
                int p = n / q;
                CHECK.due(told + " p", x.flock(n, rank, 0), p);
                CHECK.due(told + " q", x.flock(n, rank, 1), q);
                CHECK.due(told + " r", x.flock(n, rank, 2), r);
                boolean isClosed = isClosed(plain, p, q, r);
                CHECK.due(told + " closed", x.flock(n, rank, 3), isClosed ? 1 : 0);
                closed += isClosed ? 1 : 0;
                shortest(x, plain, new int[] {n, rank, p, q, r}, near);
                rank++;
            }
        }
        CHECK.due("kind " + kind + " flocks " + n, x.flocks(n, 0), rank);
        CHECK.due("kind " + kind + " closed flocks " + n, x.flocks(n, 1), closed);
        CHECK.due("behind the last", x.flock(n, rank, 0), -4);
        CHECK.due("behind the last", x.flock(n, rank + 1, 5), -4);
        CHECK.due("behind the last", x.flock(n, Integer.MAX_VALUE, 3), -4);
    }

    private static boolean isClosed(Plain plain, int p, int q, int r) {
        for (Plain.Num y : plain.upTo(4)) {
            Plain.Num of = new Plain.Num(y.a() * p + y.b() * r, y.b() * q);
            if (!Plain.has(p, q, r, plain.times(of, new Plain.Num(0, 1)))) {
                return false;
            }
        }
        return true;
    }

    // Some number of every flock of index n is of a size of 2 n + 2 at most.
    private static void shortest(PlaneWholes x, Plain plain, int[] of, List<Plain.Num> near) {
        long least = Long.MAX_VALUE;
        int count = 0;
        for (Plain.Num y : near) {
            long size = plain.size(y);
            if (size > 0 && size <= least && Plain.has(of[2], of[3], of[4], y)) {
                count = size < least ? 1 : count + 1;
                least = size;
            }
        }
        CHECK.due("kind " + plain.kind + " shortest of " + of[0] + " " + of[1], x.flock(of[0], of[1], 4), least);
        CHECK.due("kind " + plain.kind + " how many of " + of[0] + " " + of[1], x.flock(of[0], of[1], 5), count);
    }

    private static void haves(int kind) {
        PlaneWholes x = of(kind);
        int[][] flocks = {{1, 1, 0}, {2, 1, 1}, {3, 2, 2}, {5, 3, 4}, {1, 7, 0}, {6, 1, 0}};
        for (int[] f : flocks) {
            for (int u = -9; u <= 9; u++) {
                for (int v = -9; v <= 9; v++) {
                    x.set(0, u, v);
                    long due = Plain.has(f[0], f[1], f[2], new Plain.Num(u, v)) ? 1 : 0;
                    CHECK.due("has " + u + " " + v, x.has(f[0], f[1], f[2], 0), due);
                }
            }
        }
        x.set(0, 20000, -20000);
        CHECK.due("has far", x.has(200, 200, 199, 0), 19900 % 200 == 100 ? 0 : 1);
        x.set(0, -19900, 20000);
        CHECK.due("has far", x.has(200, 200, 1, 0), 1);
        CHECK.due("has far", x.has(200, 200, 2, 0), 0);
    }

    /** SUM and MEET of small flocks, from all their numbers. */
    private static void joins() {
        PlaneWholes x = new PlaneWholes();
        int[][] flocks = {{1, 1, 0}, {2, 1, 1}, {2, 2, 0}, {3, 1, 2}, {4, 2, 3}, {2, 4, 1}, {6, 1, 4}, {4, 4, 2}, {3, 6, 1}, {5, 1, 2}, {1, 5, 0}, {6, 4, 3}};
        for (int[] f : flocks) {
            for (int[] g : flocks) {
                int side = f[0] * f[1] * g[0] * g[1];
                if (side > 300) {
                    continue;
                }
                boolean[][] in = numbers(side, f);
                boolean[][] in2 = numbers(side, g);
                boolean[][] both = new boolean[side][side];
                for (int a = 0; a < side; a++) {
                    for (int b = 0; b < side; b++) {
                        both[a][b] = in[a][b] && in2[a][b];
                    }
                }
                List<Plain.Num> all = new ArrayList<>();
                all.add(new Plain.Num(f[0], 0));
                all.add(new Plain.Num(f[2], f[1]));
                all.add(new Plain.Num(g[0], 0));
                all.add(new Plain.Num(g[2], g[1]));
                long[] meet = Plain.told(both, side);
                long[] sum = Plain.told(Plain.sums(all, side), side);
                for (int what = 0; what < 3; what++) {
                    String told = f[0] + "," + f[1] + "," + f[2] + " " + g[0] + "," + g[1] + "," + g[2] + " " + what;
                    CHECK.due("meet " + told, x.joined(f[0], f[1], f[2], g[0], g[1], g[2], true, what), meet[what]);
                    CHECK.due("sum " + told, x.joined(f[0], f[1], f[2], g[0], g[1], g[2], false, what), sum[what]);
                }
            }
        }
    }

    private static boolean[][] numbers(int side, int[] f) {
        boolean[][] in = new boolean[side][side];
        for (int a = 0; a < side; a++) {
            for (int b = 0; b < side; b++) {
                in[a][b] = Plain.has(f[0], f[1], f[2], new Plain.Num(a, b));
            }
        }
        return in;
    }

    /** Far flocks: what is told has both, or is in both, and its index fits (index of sum times index of meet). */
    private static void farJoins() {
        PlaneWholes x = new PlaneWholes();
        int[][] flocks = {{200, 200, 199}, {200, 1, 77}, {1, 200, 0}, {150, 100, 75}, {199, 3, 5}, {60, 40, 20}, {12, 180, 7}, {128, 96, 64}};
        for (int[] f : flocks) {
            for (int[] g : flocks) {
                int p = x.joined(f[0], f[1], f[2], g[0], g[1], g[2], false, 0);
                int q = x.joined(f[0], f[1], f[2], g[0], g[1], g[2], false, 1);
                int r = x.joined(f[0], f[1], f[2], g[0], g[1], g[2], false, 2);
                String told = f[0] + "," + f[1] + "," + f[2] + " " + g[0] + "," + g[1] + "," + g[2];
                CHECK.due("told " + told, p >= 1 && q >= 1 && r >= 0 && r < p ? 1 : 0, 1);
                for (int[] h : new int[][] {f, g}) {
                    CHECK.due("sum " + told, Plain.has(p, q, r, new Plain.Num(h[0], 0)) ? 1 : 0, 1);
                    CHECK.due("sum " + told, Plain.has(p, q, r, new Plain.Num(h[2], h[1])) ? 1 : 0, 1);
                }
                int meetP = x.joined(f[0], f[1], f[2], g[0], g[1], g[2], true, 0);
                int meetQ = x.joined(f[0], f[1], f[2], g[0], g[1], g[2], true, 1);
                int meetR = x.joined(f[0], f[1], f[2], g[0], g[1], g[2], true, 2);
                long[] due = meet(f, g);
                CHECK.due("meet p " + told, meetP, due[0]);
                CHECK.due("meet q " + told, meetQ, due[1]);
                CHECK.due("meet r " + told, meetR, due[2]);
                if (meetP > 0) {
                    CHECK.due("indices " + told, (long) p * q * meetP * meetQ, (long) f[0] * f[1] * g[0] * g[1]);
                }
            }
        }
    }

    private static long[] meet(int[] f, int[] g) {
        int p = f[0];
        while (p % g[0] != 0) {
            p += f[0];
        }
        for (int q = f[1]; p <= 200 && q <= 200; q += f[1]) {
            for (int r = 0; r < p; r++) {
                Plain.Num y = new Plain.Num(r, q);
                if (Plain.has(f[0], f[1], f[2], y) && Plain.has(g[0], g[1], g[2], y)) {
                    return new long[] {p, q, r};
                }
            }
        }
        return new long[] {-2, -2, -2};
    }

    private static void turns(int kind) {
        Plain plain = new Plain(kind);
        PlaneWholes x = of(kind);
        int[][] flocks = {{1, 1, 0}, {2, 1, 1}, {3, 2, 2}, {2, 2, 0}, {1, 3, 0}, {4, 1, 3}};
        for (int[] f : flocks) {
            for (int a = -3; a <= 3; a++) {
                for (int b = -2; b <= 2; b++) {
                    Plain.Num by = new Plain.Num(a, b);
                    x.set(0, a, b);
                    int side = (int) (f[0] * f[1] * plain.size(by));
                    String told = "kind " + kind + " " + f[0] + "," + f[1] + "," + f[2] + " by " + by;
                    if (side == 0) {
                        CHECK.due(told, x.turned(f[0], f[1], f[2], 0, 0), -2);
                        continue;
                    }
                    List<Plain.Num> of = new ArrayList<>();
                    of.add(plain.times(by, new Plain.Num(f[0], 0)));
                    of.add(plain.times(by, new Plain.Num(f[2], f[1])));
                    long[] due = Plain.told(Plain.sums(of, side), side);
                    for (int what = 0; what < 3; what++) {
                        CHECK.due(told + " " + what, x.turned(f[0], f[1], f[2], 0, what), due[what]);
                    }
                }
            }
        }
    }

    private static void farTurns() {
        PlaneWholes x = new PlaneWholes();
        x.set(0, 200, 0);
        for (int what = 0; what < 3; what++) {
            CHECK.due("by 200", x.turned(1, 1, 0, 0, what), what == 2 ? 0 : 200);
        }
        x.set(0, 201, 0);
        CHECK.due("by 201", x.turned(1, 1, 0, 0, 0), -2);
        CHECK.due("by 201", x.turned(1, 1, 0, 0, 2), -2);
        x.set(0, 14, 2);
        CHECK.due("p is 100", x.turned(1, 1, 0, 0, 0), 100);
        x.set(0, 14, 3);
        CHECK.due("p would be 205", x.turned(1, 1, 0, 0, 0), -2);
        CHECK.due("p would be 205", x.turned(1, 1, 0, 0, 1), -2);
        x.set(0, 0, 1);
        CHECK.due("a fourth of a turn", x.turned(200, 1, 0, 0, 0), 1);
        CHECK.due("a fourth of a turn", x.turned(200, 1, 0, 0, 1), 200);
        CHECK.due("a fourth of a turn", x.turned(1, 200, 0, 0, 0), 200);
        CHECK.due("a unit", x.turned(200, 1, 1, 0, 0), 200);
        CHECK.due("a unit", x.turned(200, 1, 1, 0, 2), 199);
        for (int kind = 0; kind < 5; kind++) {
            x.kind(kind);
            x.set(0, 20000, 20000);
            CHECK.due("far", x.turned(200, 200, 199, 0, 0), -2);
            x.set(0, -20000, 19999);
            CHECK.due("far", x.turned(200, 199, 198, 0, 1), -2);
        }
    }

    private static void edges() {
        PlaneWholes x = new PlaneWholes();
        x.set(0, 1, 0);
        for (int n : new int[] {0, -1, 201, Integer.MAX_VALUE, Integer.MIN_VALUE}) {
            CHECK.due("flocks", x.flocks(n, 0), -1);
            CHECK.due("flock", x.flock(n, 0, 0), -1);
            badFlock(x, n, 1, 0);
            badFlock(x, 1, n, 0);
        }
        badFlock(x, 3, 1, 3);
        badFlock(x, 3, 1, -1);
        badFlock(x, 200, 1, 200);
        badFlock(x, 1, 1, Integer.MAX_VALUE);
        badFlock(x, 1, 1, Integer.MIN_VALUE);
        for (int what : new int[] {-1, Integer.MIN_VALUE, 6, Integer.MAX_VALUE}) {
            CHECK.due("flocks", x.flocks(5, what), -1);
            CHECK.due("flock", x.flock(5, 0, what), -1);
            CHECK.due("flock, BAD ahead of NONE", x.flock(5, 100, what), -1);
            CHECK.due("joined", x.joined(1, 1, 0, 1, 1, 0, true, what), -1);
            CHECK.due("turned", x.turned(1, 1, 0, 0, what), -1);
        }
        CHECK.due("flocks", x.flocks(5, 2), -1);
        CHECK.due("joined", x.joined(1, 1, 0, 1, 1, 0, false, 3), -1);
        CHECK.due("joined, BAD ahead of NO", x.joined(200, 1, 0, 199, 1, 0, true, 3), -1);
        CHECK.due("joined", x.joined(200, 1, 0, 199, 1, 0, true, 2), -2);
        CHECK.due("turned", x.turned(1, 1, 0, 0, 3), -1);
        CHECK.due("turned, BAD ahead of NO", x.turned(1, 1, 0, 7, 3), -1);
        CHECK.due("turned by 0", x.turned(1, 1, 0, 7, 0), -2);
        CHECK.due("flock", x.flock(5, -1, 0), -1);
        CHECK.due("flock", x.flock(5, Integer.MIN_VALUE, 0), -1);
        for (int r : new int[] {-1, 8, Integer.MAX_VALUE, Integer.MIN_VALUE}) {
            CHECK.due("has", x.has(1, 1, 0, r), -1);
            CHECK.due("turned", x.turned(1, 1, 0, r, 0), -1);
        }
        CHECK.due("has 0", x.has(200, 200, 199, 7), 1);
    }

    private static void badFlock(PlaneWholes x, int p, int q, int r) {
        CHECK.due("has", x.has(p, q, r, 0), -1);
        CHECK.due("joined", x.joined(p, q, r, 1, 1, 0, true, 0), -1);
        CHECK.due("joined", x.joined(1, 1, 0, p, q, r, false, 0), -1);
        CHECK.due("turned", x.turned(p, q, r, 0, 0), -1);
        CHECK.due("turned, BAD ahead of NO", x.turned(p, q, r, 7, 0), -1);
    }
}
