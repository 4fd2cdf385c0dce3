import java.util.ArrayList;
import java.util.List;
import java.util.Map;

/** Promises 28 and 29: where, leaps. */
public final class LeapsTest {
    private static final Check CHECK = new Check();

    public static void main(String[] args) {
        for (int kind = 0; kind < 5; kind++) {
            for (int a = -5; a <= 5; a++) {
                for (int b = -4; b <= 4; b++) {
                    by(kind, a, b);
                }
            }
            int[][] far = {{30, 1}, {29, 30}, {60, 0}, {61, 2}, {-60, 60}, {15, 16}, {31, -29}, {0, 20}, {20000, -20000}, {17, 3}};
            for (int[] m : far) {
                by(kind, m[0], m[1]);
            }
            farWhere(kind);
        }
        edges();
        CHECK.end();
    }

    private static void by(int kind, int a, int b) {
        Plain plain = new Plain(kind);
        PlaneWholes x = new PlaneWholes();
        x.kind(kind);
        Plain.Num m = new Plain.Num(a, b);
        x.set(1, a, b);
        String told = "kind " + kind + " by " + m;
        if (m.equals(Plain.ZERO)) {
            CHECK.due(told, x.where(1), -2);
            CHECK.due(told, x.leaps(1, 0), -2);
            return;
        }
        CHECK.due(told + " where", x.where(1), index(plain, m));
        Map<Plain.Num, Integer> fewest = plain.fewest(m);
        for (int i = -31; i <= 31; i += 1 + Math.abs(i * 3) % 5) {
            for (int j = -31; j <= 31; j += 1 + Math.abs(j * 7) % 4) {
                x.set(0, i, j);
                CHECK.due(told + " leaps to " + i + " " + j, x.leaps(1, 0), fewest.getOrDefault(new Plain.Num(i, j), -4));
            }
        }
    }

    /** How many numbers stand apart, counted over a patch that comes again; a line has none. */
    private static long index(Plain plain, Plain.Num m) {
        List<Plain.Num> leaps = new ArrayList<>(plain.leaps(m));
        long index = 0;
        for (Plain.Num y : leaps) {
            for (Plain.Num z : leaps) {
                long patch = Math.abs(y.a() * z.b() - y.b() * z.a());
                while (patch != 0) {
                    long left = index % patch;
                    index = patch;
                    patch = left;
                }
            }
        }
        if (index != 0 && index <= 120) {
            int in = 0;
            for (boolean[] row : Plain.sums(leaps, (int) index)) {
                for (boolean is : row) {
                    in += is ? 1 : 0;
                }
            }
            CHECK.due("the test's own two ways", index * index / in, index);
        }
        return index == 0 ? -4 : index;
    }

    private static void farWhere(int kind) {
        Plain plain = new Plain(kind);
        PlaneWholes x = new PlaneWholes();
        x.kind(kind);
        int[] parts = {-20000, -19999, -12, -1, 0, 1, 7, 19997, 20000};
        for (int a : parts) {
            for (int b : parts) {
                if (a != 0 || b != 0) {
                    x.set(0, a, b);
                    CHECK.due("kind " + kind + " where " + a + " " + b, x.where(0), index(plain, new Plain.Num(a, b)));
                }
            }
        }
    }

    private static void edges() {
        PlaneWholes x = new PlaneWholes();
        x.set(1, 1, 0);
        for (int r : new int[] {-1, 8, Integer.MAX_VALUE, Integer.MIN_VALUE}) {
            CHECK.due("where", x.where(r), -1);
            CHECK.due("leaps", x.leaps(r, 0), -1);
            CHECK.due("leaps", x.leaps(1, r), -1);
            CHECK.due("leaps, BAD ahead of NO", x.leaps(0, r), -1);
        }
        x.set(0, 30, 30);
        CHECK.due("the corner", x.leaps(1, 0), 60);
        for (int[] edge : new int[][] {{-30, 0, 30}, {0, -30, 30}, {-30, -30, 60}, {30, -30, 60}, {-30, 29, 59}}) {
            x.set(0, edge[0], edge[1]);
            CHECK.due("the edge", x.leaps(1, 0), edge[2]);
        }
        for (int[] beyond : new int[][] {{31, 0}, {-31, 0}, {0, 31}, {0, -31}, {64, 0}, {-64, 5}, {64, 30}, {128, -30}, {20000, 20000}}) {
            x.set(0, beyond[0], beyond[1]);
            CHECK.due("beyond", x.leaps(1, 0), -4);
        }
        x.kind(4);
        x.set(0, 20000, 20000);
        CHECK.due("where far", x.where(0), 20000L * 60000L);
        x.kind(2);
        x.set(0, 0, 3);
        CHECK.due("a line", x.where(0), -4);
        x.set(0, 3, 0);
        CHECK.due("a line", x.where(0), -4);
        CHECK.due("along the line", x.leaps(0, 0), 1);
        CHECK.due("to where it stands", x.leaps(0, 7), 0);
    }
}
