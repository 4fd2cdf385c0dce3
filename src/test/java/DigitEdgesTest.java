import java.util.HashSet;
import java.util.List;
import java.util.Map;

/** The edges that the document names for promises 20 to 22, a test for each sentence; what is due is told by hand or by Plain. */
public final class DigitEdgesTest {
    private static final Check CHECK = new Check();
    private static final int BAD = -1, NO = -2;

    public static void main(String[] args) {
        baseBelowSizeTwoIsNo();
        baseAboveSizeAHundredIsNo();
        baseWithLikeRestsIsNo();
        theLeastAndTheGreatestBases();
        digitsOfZero();
        digitsThatEnd();
        digitsThatComeRound();
        digitsThatAreInTheRoundFromTheFirst();
        theLongestRound();
        ranksOfDigits();
        digitsKnowThreeWays();
        roundsOfZeroAlone();
        roundsBesideThatOfZero();
        noRegisters();
        theFirstOfSeveral();
        CHECK.end();
    }

    /** Register 0 is the number, 1 is the base; 3 shows the net. */
    private static PlaneWholes of(int kind, int a, int b, int c, int d) {
        PlaneWholes x = new PlaneWholes();
        x.kind(kind);
        x.set(0, a, b);
        x.set(1, c, d);
        x.set(3, 5, 7);
        return x;
    }

    private static void allNo(PlaneWholes x, String told) {
        CHECK.stays(x, told + " digit", () -> x.digit(0, 1, 0), NO);
        CHECK.stays(x, told + " digit, whatever i", () -> x.digit(0, 1, Integer.MAX_VALUE), NO);
        for (int what = 0; what <= 2; what++) {
            int way = what;
            CHECK.stays(x, told + " digits " + what, () -> x.digits(0, 1, way), NO);
        }
        CHECK.stays(x, told + " rounds", () -> x.rounds(1, 0), NO);
        CHECK.stays(x, told + " ringed", () -> x.rounds(1, 1), NO);
    }

    private static void baseBelowSizeTwoIsNo() {
        for (int kind = 0; kind <= 4; kind++) {
            allNo(of(kind, 3, 2, 0, 0), "Term 4: by 0, kind " + kind);
            allNo(of(kind, 3, 2, 1, 0), "Term 4: by 1, kind " + kind);
            allNo(of(kind, 0, 0, -1, 0), "Term 4: by -1, kind " + kind);
        }
        allNo(of(0, 3, 2, 0, 1), "Term 4: by w with squares");
        allNo(of(1, 3, 2, 1, 1), "Term 4: by 1 + w with triangles");
    }

    private static void baseAboveSizeAHundredIsNo() {
        // By m and one w more 0, 1, .. have unlike RESTS always; these are the least such of more than 100.
        int[][] beyond = {{10, 1, 101}, {11, 1, 111}, {10, 1, 102}, {10, 1, 112}, {10, 1, 113}};
        for (int kind = 0; kind <= 4; kind++) {
            int[] m = beyond[kind];
            PlaneWholes x = of(kind, 3, 2, m[0], m[1]);
            CHECK.due("the size of this test's m", x.size(1), m[2]);
            allNo(x, "Term 4: of size " + m[2]);
            allNo(of(kind, 3, 2, 20000, 20000), "Term 4: by the farthest");
            x.set(1, m[0] - 1, 1);
            CHECK.due("Term 4: one less is a base", x.digits(7, 1, 0), 0);
        }
        // Of size 103 with triangles, one that is nearer.
        allNo(of(1, 3, 2, 2, -9), "Term 4: of size 103");
    }

    private static void baseWithLikeRestsIsNo() {
        for (int kind = 0; kind <= 4; kind++) {
            allNo(of(kind, 3, 2, 2, 0), "Term 4: 0 and 2 are like by 2, kind " + kind);
            allNo(of(kind, 3, 2, -3, 0), "Term 4: 0 and 3 are like by -3, kind " + kind);
            allNo(of(kind, 3, 2, 10, 0), "Term 4: of size 100, and 0 and 10 are like, kind " + kind);
        }
        allNo(of(0, 3, 2, 6, 8), "Term 4: of size 100, and 0 and 50 are like");
        allNo(of(2, 3, 2, 0, 2), "Term 4: of size 8, and 0 and 4 are like");
    }

    private static void theLeastAndTheGreatestBases() {
        // 1 + w of size 2, 1 + 7 w of size 99: 98 is the greatest digit.
        PlaneWholes x = of(0, 1, 0, 1, 1);
        CHECK.due("Term 4: by size 2 the digit of 1", x.digit(0, 1, 0), 1);
        CHECK.due("Term 4: by size 2 the tail of 1", x.digits(0, 1, 0), 1);
        PlaneWholes y = of(2, 98, 0, 1, 7);
        CHECK.due("Term 4: by size 99 the greatest digit", y.digit(0, 1, 0), 98);
        CHECK.due("Term 4: and that alone", y.digits(0, 1, 0), 1);
        CHECK.due("Term 4: and their sum", y.digits(0, 1, 2), 98);
        y.set(0, 99, 0);
        CHECK.due("Term 4: the digit of 99 is 0", y.digit(0, 1, 0), 0);
        y.set(0, -1, 0);
        CHECK.due("Term 4: the digit of -1", y.digit(0, 1, 0), 98);
        PlaneWholes z = of(4, -1, 0, 3, 5);
        CHECK.due("Term 4: by size 99 in kind 4", z.digit(0, 1, 0), 98);
    }

    private static void digitsOfZero() {
        for (int kind = 0; kind <= 4; kind++) {
            PlaneWholes x = of(kind, 0, 0, 4, 1);
            for (int what = 0; what <= 2; what++) {
                CHECK.due("Term 4: of 0, kind " + kind, x.digits(0, 1, what), 0);
            }
            for (int i : new int[] {0, 1, Integer.MAX_VALUE}) {
                CHECK.due("Promise 20: of 0, kind " + kind, x.digit(0, 1, i), 0);
            }
        }
    }

    private static void digitsThatEnd() {
        // 2 by -1 + w with squares: 0, 0, 1, 1.
        PlaneWholes x = of(0, 2, 0, -1, 1);
        int[] digits = {0, 0, 1, 1};
        for (int i = 0; i < 4; i++) {
            CHECK.due("Promise 20: of 2, digit " + i, x.digit(0, 1, i), digits[i]);
        }
        for (int i : new int[] {4, 5, 1000, Integer.MAX_VALUE}) {
            CHECK.due("Promise 20: behind the END", x.digit(0, 1, i), 0);
        }
        CHECK.due("Promise 21: TAIL", x.digits(0, 1, 0), 4);
        CHECK.due("Term 4: ROUND is 0, if they END", x.digits(0, 1, 1), 0);
        CHECK.due("Promise 21: their sum", x.digits(0, 1, 2), 2);
    }

    private static void digitsThatComeRound() {
        // -1 by 1 + w with squares: 1, then -1 + w: 0, then w: 1 for ever.
        PlaneWholes x = of(0, -1, 0, 1, 1);
        int[] digits = {1, 0, 1, 1, 1};
        for (int i = 0; i < 5; i++) {
            CHECK.due("Promise 20: of -1, digit " + i, x.digit(0, 1, i), digits[i]);
        }
        CHECK.due("Promise 20: what comes round goes on", x.digit(0, 1, Integer.MAX_VALUE), 1);
        CHECK.due("Promise 21: TAIL", x.digits(0, 1, 0), 2);
        CHECK.due("Promise 21: ROUND", x.digits(0, 1, 1), 1);
        CHECK.due("Promise 21: the sum of TAIL and one ROUND", x.digits(0, 1, 2), 2);
    }

    private static void digitsThatAreInTheRoundFromTheFirst() {
        PlaneWholes x = of(0, 0, 1, 1, 1);
        CHECK.due("Term 4: no TAIL", x.digits(0, 1, 0), 0);
        CHECK.due("Term 4: ROUND from the first", x.digits(0, 1, 1), 1);
        CHECK.due("Term 4: the sum of one ROUND", x.digits(0, 1, 2), 1);
        CHECK.due("Term 4: the first digit", x.digit(0, 1, 0), 1);
    }

    private static void theLongestRound() {
        // 10 numbers come round with triangles, behind one digit.
        Plain plain = new Plain(1);
        Plain.Num m = new Plain.Num(-5, -11);
        List<Plain.Num> trail = plain.trail(new Plain.Num(-4, -4), m);
        PlaneWholes x = of(1, -4, -4, -5, -11);
        CHECK.due("Term 4: TAIL ahead of the longest round", x.digits(0, 1, 0), 1);
        CHECK.due("Term 4: the longest round", x.digits(0, 1, 1), 10);
        long sum = 0;
        for (int i = 0; i <= 10; i++) {
            long digit = plain.lastDigit(trail.get(i), m);
            sum += digit;
            CHECK.due("Promise 20: digit " + i, x.digit(0, 1, i), digit);
            if (i >= 1) {
                CHECK.due("Promise 20: once round, digit " + (i + 10), x.digit(0, 1, i + 10), digit);
                CHECK.due("Promise 20: twice round, digit " + (i + 20), x.digit(0, 1, i + 20), digit);
            }
            int far = Integer.MAX_VALUE - i;
            CHECK.due("Promise 20: digit " + far, x.digit(0, 1, far), plain.lastDigit(trail.get(1 + (far - 1) % 10), m));
        }
        CHECK.due("Promise 21: the sum of TAIL and one ROUND", x.digits(0, 1, 2), sum);
    }

    private static void ranksOfDigits() {
        PlaneWholes x = of(0, 2, 0, -1, 1);
        CHECK.stays(x, "Promise 20: ahead of the first", () -> x.digit(0, 1, -1), BAD);
        CHECK.stays(x, "Promise 20: far ahead of the first", () -> x.digit(0, 1, Integer.MIN_VALUE), BAD);
    }

    private static void digitsKnowThreeWays() {
        PlaneWholes x = of(0, 2, 0, -1, 1);
        for (int what : new int[] {-1, 3, Integer.MIN_VALUE, Integer.MAX_VALUE}) {
            CHECK.stays(x, "Promise 21: what is " + what, () -> x.digits(0, 1, what), BAD);
        }
        for (int what : new int[] {-1, 2, Integer.MIN_VALUE, Integer.MAX_VALUE}) {
            CHECK.stays(x, "Promise 22: what is " + what, () -> x.rounds(1, what), BAD);
        }
    }

    private static void roundsOfZeroAlone() {
        int[][] bases = {{0, -1, 1}, {1, -1, 1}, {2, 0, 1}, {2, 0, -1}, {3, 0, 1}, {3, 0, -1}, {4, 0, 1}, {4, 0, -1}};
        for (int[] m : bases) {
            PlaneWholes x = of(m[0], 0, 0, m[1], m[2]);
            CHECK.due("Term 4: that of 0 alone too", x.rounds(1, 0), 1);
            CHECK.due("Term 4: 0 alone stands in it", x.rounds(1, 1), 1);
        }
    }

    private static void roundsBesideThatOfZero() {
        for (int kind : new int[] {0, 2, 3, 4}) {
            PlaneWholes x = of(kind, 0, 0, 1, 1);
            CHECK.due("Term 4: that of 0 and one more", x.rounds(1, 0), 2);
            CHECK.due("Term 4: of one number each", x.rounds(1, 1), 2);
        }
        // By -5 - 11 w with triangles one ring alone has 10 numbers.
        PlaneWholes y = of(1, 0, 0, -5, -11);
        Map<Plain.Num, Plain.Num> rings = new Plain(1).rings(new Plain.Num(-5, -11), 200);
        CHECK.due("Term 4: unlike rings", y.rounds(1, 0), new HashSet<>(rings.values()).size());
        CHECK.due("Term 4: how many stand in rings", y.rounds(1, 1), rings.size());
    }

    private static void noRegisters() {
        PlaneWholes x = of(0, 2, 0, -1, 1);
        for (int r : Check.NO_REGISTERS) {
            CHECK.stays(x, "Promise 20: of " + r, () -> x.digit(r, 1, 0), BAD);
            CHECK.stays(x, "Promise 20: by " + r, () -> x.digit(0, r, 0), BAD);
            CHECK.stays(x, "Promise 21: of " + r, () -> x.digits(r, 1, 0), BAD);
            CHECK.stays(x, "Promise 21: by " + r, () -> x.digits(0, r, 0), BAD);
            CHECK.stays(x, "Promise 22: by " + r, () -> x.rounds(r, 0), BAD);
        }
        x.set(7, -1, 1);
        CHECK.due("Promise 20: by the last register", x.digit(0, 7, 2), 1);
        CHECK.due("Promise 22: by the last register", x.rounds(7, 0), 1);
        CHECK.due("Promise 21: the base by itself", x.digits(7, 7, 0), 2);
    }

    private static void theFirstOfSeveral() {
        PlaneWholes x = of(0, 2, 0, 0, 0);
        CHECK.stays(x, "Term 6: BAD ahead of NO", () -> x.digit(0, 1, -1), BAD);
        CHECK.stays(x, "Term 6: BAD ahead of NO", () -> x.digits(0, 1, 3), BAD);
        CHECK.stays(x, "Term 6: BAD ahead of NO", () -> x.rounds(1, 2), BAD);
        for (int r : Check.NO_REGISTERS) {
            CHECK.stays(x, "Term 6: BAD ahead of NO", () -> x.digit(r, 1, 0), BAD);
            CHECK.stays(x, "Term 6: BAD ahead of NO", () -> x.digits(r, 1, 0), BAD);
        }
    }
}
