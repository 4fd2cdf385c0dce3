import java.util.HashSet;
import java.util.List;
import java.util.Map;

/** Promises 20 to 22: digit, digits, rounds. */
public final class DigitsTest {
    private static final Check CHECK = new Check();

    public static void main(String[] args) {
        for (int kind = 0; kind < 5; kind++) {
            for (int a = -4; a <= 4; a++) {
                for (int b = -3; b <= 3; b++) {
                    by(kind, a, b);
                }
            }
            farBases(kind);
        }
        edges();
        CHECK.end();
    }

    private static PlaneWholes of(int kind) {
        PlaneWholes x = new PlaneWholes();
        x.kind(kind);
        return x;
    }

    private static void by(int kind, int a, int b) {
        Plain plain = new Plain(kind);
        PlaneWholes x = of(kind);
        Plain.Num m = new Plain.Num(a, b);
        x.set(1, a, b);
        if (!plain.isBase(m)) {
            noBase(x, "kind " + kind + " " + m);
            return;
        }
        int[][] numbers = {{0, 0}, {1, 0}, {-1, 0}, {0, 1}, {3, -5}, {17, 40}, {-20000, 20000}, {20000, 20000}, {-1, -1}, {2, -1}};
        for (int[] number : numbers) {
            x.set(0, number[0], number[1]);
            one(x, plain, new Plain.Num(number[0], number[1]), m);
        }
        rounds(x, plain, m);
    }

    private static void noBase(PlaneWholes x, String told) {
        CHECK.due(told + " digit", x.digit(0, 1, 0), -2);
        for (int what = 0; what < 3; what++) {
            CHECK.due(told + " digits", x.digits(0, 1, what), -2);
        }
        CHECK.due(told + " rounds", x.rounds(1, 0), -2);
        CHECK.due(told + " rounds", x.rounds(1, 1), -2);
    }

    private static void one(PlaneWholes x, Plain plain, Plain.Num r, Plain.Num m) {
        String told = "kind " + plain.kind + " digits of " + r + " by " + m;
        List<Plain.Num> trail = plain.trail(r, m);
        int tail = trail.indexOf(trail.get(trail.size() - 1));
        int ring = trail.size() - 1 - tail;
        boolean ends = trail.get(tail).equals(Plain.ZERO);
        CHECK.due(told + " tail", x.digits(0, 1, 0), tail);
        CHECK.due(told + " round", x.digits(0, 1, 1), ends ? 0 : ring);
        int sum = 0;
        for (int i = 0; i < trail.size() - 1; i++) {
            int digit = (int) plain.lastDigit(trail.get(i), m);
            sum += digit;
            CHECK.due(told + " digit " + i, x.digit(0, 1, i), digit);
        }
        CHECK.due(told + " sum", x.digits(0, 1, 2), sum);
        for (int i : new int[] {tail + ring, tail + ring + 1, tail + 5 * ring + 2, 1000003, Integer.MAX_VALUE}) {
            CHECK.due(told + " digit " + i, x.digit(0, 1, i), plain.lastDigit(trail.get(tail + (i - tail) % ring), m));
        }
    }

    private static void rounds(PlaneWholes x, Plain plain, Plain.Num m) {
        Map<Plain.Num, Plain.Num> rings = plain.rings(m, 200);
        CHECK.due("kind " + plain.kind + " rounds by " + m, x.rounds(1, 0), new HashSet<>(rings.values()).size());
        CHECK.due("kind " + plain.kind + " ringed by " + m, x.rounds(1, 1), rings.size());
    }

    private static void farBases(int kind) {
        Plain plain = new Plain(kind);
        PlaneWholes x = of(kind);
        int[][] bases = {{9, 1}, {-9, 1}, {9, 2}, {1, 5}, {-1, 6}, {3, 7}, {8, -3}, {9, 4}, {-7, 4}, {1, 9}, {10, 1}, {10, 0}, {11, 1}};
        for (int[] base : bases) {
            Plain.Num m = new Plain.Num(base[0], base[1]);
            x.set(1, base[0], base[1]);
            if (plain.isBase(m)) {
                rounds(x, plain, m);
                x.set(0, -20000, 12345);
                one(x, plain, new Plain.Num(-20000, 12345), m);
            } else {
                noBase(x, "kind " + kind + " " + m);
            }
        }
    }

    private static void edges() {
        PlaneWholes x = new PlaneWholes();
        x.set(1, -1, 1);
        x.set(0, 5, 0);
        for (int r : new int[] {-1, 8, Integer.MAX_VALUE, Integer.MIN_VALUE}) {
            CHECK.due("digit", x.digit(r, 1, 0), -1);
            CHECK.due("digit", x.digit(0, r, 0), -1);
            CHECK.due("digits", x.digits(r, 1, 0), -1);
            CHECK.due("digits", x.digits(0, r, 0), -1);
            CHECK.due("rounds", x.rounds(r, 0), -1);
        }
        CHECK.due("digit", x.digit(0, 1, -1), -1);
        CHECK.due("digit", x.digit(0, 1, Integer.MIN_VALUE), -1);
        CHECK.due("digit, BAD ahead of NO", x.digit(0, 7, -1), -1);
        CHECK.due("digits", x.digits(0, 1, -1), -1);
        CHECK.due("digits", x.digits(0, 1, 3), -1);
        CHECK.due("digits, BAD ahead of NO", x.digits(0, 7, 3), -1);
        CHECK.due("rounds", x.rounds(1, -1), -1);
        CHECK.due("rounds", x.rounds(1, 2), -1);
        CHECK.due("rounds, BAD ahead of NO", x.rounds(7, 2), -1);
        // 99 is the greatest digit, by a base of size 100: none of these is one in squares.
        x.set(1, 10, 0);
        noBase(x, "10");
        x.set(1, 6, 8);
        noBase(x, "6 + 8 w");
        x.set(1, 4, 9);
        CHECK.due("by 4 + 9 w", x.rounds(1, 0) >= 1 ? 1 : 0, 1);
        x.set(1, 10, 1);
        noBase(x, "10 + w");
        x.kind(4);
        x.set(1, 8, 3);
        noBase(x, "of size 115");
        x.set(1, 5, 4);
        x.set(0, 99, 0);
        CHECK.due("of size 93", x.digit(0, 1, 0), 6);
    }
}
