import java.util.List;

/** Promises 10 to 13: parts, part, ofSize, within. */
public final class PrimesTest {
    private static final Check CHECK = new Check();

    public static void main(String[] args) {
        for (int kind = 0; kind < 5; kind++) {
            smallOnes(kind);
            farOnes(kind);
            circles(kind);
        }
        edges();
        told();
        CHECK.end();
    }

    private static PlaneWholes of(int kind) {
        PlaneWholes x = new PlaneWholes();
        x.kind(kind);
        return x;
    }

    private static void smallOnes(int kind) {
        Plain plain = new Plain(kind);
        PlaneWholes x = of(kind);
        for (int a = -6; a <= 11; a++) {
            for (int b = -5; b <= 6; b++) {
                Plain.Num r = new Plain.Num(a, b);
                x.set(0, a, b);
                if (r.equals(Plain.ZERO)) {
                    CHECK.due("parts of 0", x.parts(0), -2);
                    continue;
                }
                List<Plain.Num> parts = plain.parts(r);
                String told = "kind " + kind + " parts of " + r;
                CHECK.due(told, x.parts(0), parts.size() - 1);
                for (int i = 0; i < parts.size(); i++) {
                    CHECK.due(told, x.part(1, 0, i), 0);
                    CHECK.holds(x, told + " " + i, 1, parts.get(i).a(), parts.get(i).b());
                }
                x.set(1, 4, 5);
                CHECK.due(told, x.part(1, 0, parts.size()), -4);
                CHECK.due(told, x.part(1, 0, Integer.MAX_VALUE), -4);
                CHECK.holds(x, "NONE changes nothing", 1, 4, 5);
            }
        }
    }

    /** Far numbers: the parts make the number, are primes by their sizes, in shape and in order. */
    private static void farOnes(int kind) {
        Plain plain = new Plain(kind);
        int[] firsts = {-20000, -19683, -8192, 0, 360, 15015, 16384, 19999};
        int[] seconds = {-20000, -19997, -30, 0, 720, 16384, 20000};
        PlaneWholes x = of(kind);
        for (int a : firsts) {
            for (int b : seconds) {
                if (a != 0 || b != 0) {
                    x.set(0, a, b);
                    farOne(x, plain, new Plain.Num(a, b));
                }
            }
        }
    }

    private static void farOne(PlaneWholes x, Plain plain, Plain.Num r) {
        String told = "kind " + plain.kind + " parts of " + r;
        int count = x.parts(0);
        Plain.Num product = Plain.ONE;
        Plain.Num before = null;
        int beyond = 0;
        for (int i = 0; i <= count; i++) {
            int answer = x.part(1, 0, i);
            if (answer == -3) {
                beyond++;
                continue;
            }
            CHECK.due(told, answer, 0);
            Plain.Num part = new Plain.Num(x.get(1, 0), x.get(1, 1));
            product = plain.times(product, part);
            if (i < count) {
                long size = plain.size(part);
                CHECK.due(told + " is prime " + part, isPrime(size) || isInert(plain, part) ? 1 : 0, 1);
                CHECK.due(told + " in shape " + part, part.equals(plain.shape(part)) ? 1 : 0, 1);
                CHECK.due(told + " in order " + part, before == null || plain.bySize(before, part) <= 0 ? 1 : 0, 1);
                before = part;
            } else {
                CHECK.due(told + " the unit", plain.size(part), 1);
            }
        }
        if (beyond > 0) {
            // One part alone can be beyond the registers: what the others leave of r.
            Plain.Num left = plain.shape(plain.quotient(r, product));
            CHECK.due(told + " parts beyond", beyond, 1);
            CHECK.due(told + " is beyond " + left, Math.abs(left.a()) > 20000 || Math.abs(left.b()) > 20000 ? 1 : 0, 1);
            CHECK.due(told + " is prime " + left, isPrime(plain.size(left)) ? 1 : 0, 1);
            product = plain.times(product, plain.quotient(r, product));
        }
        CHECK.due(told + " all together", product.equals(r) ? 1 : 0, 1);
    }

    private static boolean isPrime(long size) {
        for (long d = 2; d * d <= size; d++) {
            if (size % d == 0) {
                return false;
            }
        }
        return size > 1;
    }

    // Of the size of a whole prime squared, where no number has that whole prime as its size.
    private static boolean isInert(Plain plain, Plain.Num part) {
        long size = plain.size(part);
        for (long d = 2; d * d <= size; d++) {
            if (d * d == size && isPrime(d)) {
                for (Plain.Num y : plain.upTo(d)) {
                    if (plain.size(y) == d) {
                        return false;
                    }
                }
                return true;
            }
        }
        return false;
    }

    private static void circles(int kind) {
        Plain plain = new Plain(kind);
        PlaneWholes x = of(kind);
        int far = 500;
        int[] counts = new int[far + 1];
        for (Plain.Num y : plain.upTo(far)) {
            counts[(int) plain.size(y)]++;
        }
        int within = 0;
        for (int s = 0; s <= far; s++) {
            within += counts[s];
            CHECK.due("kind " + kind + " ofSize " + s, x.ofSize(s), counts[s]);
            CHECK.due("kind " + kind + " within " + s, x.within(s), within);
        }
        for (int s : new int[] {99856, 99999, 100000}) {
            CHECK.due("kind " + kind + " ofSize " + s, x.ofSize(s), count(plain, s, s));
        }
        for (int s : new int[] {123456, 999999, 1000000}) {
            CHECK.due("kind " + kind + " within " + s, x.within(s), count(plain, 0, s));
        }
        CHECK.due("ofSize", x.ofSize(-1), -1);
        CHECK.due("ofSize", x.ofSize(100001), -1);
        CHECK.due("ofSize", x.ofSize(Integer.MIN_VALUE), -1);
        CHECK.due("ofSize", x.ofSize(Integer.MAX_VALUE), -1);
        CHECK.due("within", x.within(-1), -1);
        CHECK.due("within", x.within(1000001), -1);
        CHECK.due("within", x.within(Integer.MIN_VALUE), -1);
        CHECK.due("within", x.within(Integer.MAX_VALUE), -1);
    }

    private static int count(Plain plain, long least, long most) {
        int count = 0;
        for (long a = -1300; a <= 1300; a++) {
            for (long b = -1300; b <= 1300; b++) {
                long size = a * a + plain.t * a * b + plain.n * b * b;
                count += size >= least && size <= most ? 1 : 0;
            }
        }
        return count;
    }

    private static void edges() {
        PlaneWholes x = new PlaneWholes();
        x.set(0, 7, 5);
        x.set(1, 4, 5);
        for (int r : new int[] {-1, 8, Integer.MAX_VALUE, Integer.MIN_VALUE}) {
            CHECK.due("parts", x.parts(r), -1);
            CHECK.due("part", x.part(r, 0, 0), -1);
            CHECK.due("part", x.part(1, r, 0), -1);
            CHECK.due("part, BAD ahead of NO", x.part(r, 7, 0), -1);
        }
        CHECK.due("part", x.part(1, 0, -1), -1);
        CHECK.due("part", x.part(1, 7, -1), -1);
        CHECK.due("part of 0", x.part(1, 7, 0), -2);
        CHECK.due("parts of 0", x.parts(7), -2);
        CHECK.holds(x, "nothing changes", 1, 4, 5);
        x.set(0, 0, -1);
        CHECK.due("parts of a unit", x.parts(0), 0);
        CHECK.due("the unit that is left", x.part(0, 0, 0), 0);
        CHECK.holds(x, "the unit that is left", 0, 0, -1);
    }

    private static void told() {
        PlaneWholes x = of(1);
        x.set(0, 20000, 1);
        x.set(1, 3, 3);
        // 400000000 - 20000 + 1 is no prime; its part of size 7 comes first.
        CHECK.due("parts", x.parts(0) >= 1 ? 1 : 0, 1);
        x.set(0, 2, 0);
        CHECK.due("parts of 2", x.parts(0), 1);
        x.part(1, 0, 0);
        CHECK.holds(x, "2 stays a prime here, in shape", 1, 2, 2);
        x.set(0, 3, 0);
        CHECK.due("parts of 3", x.parts(0), 2);
        // Of size 1199880007 and prime, and its shape is beyond.
        x.kind(1);
        for (int b = -19999; b < -19900; b++) {
            x.set(0, 20000, b);
            if (isPrime(x.size(0))) {
                x.set(1, 3, 3);
                CHECK.due("one part", x.parts(0), 1);
                CHECK.due("a part beyond", x.part(1, 0, 0), -3);
                CHECK.holds(x, "a part beyond", 1, 3, 3);
                CHECK.due("the unit is told all the same", x.part(1, 0, 1), 0);
                CHECK.due("NONE", x.part(1, 0, 2), -4);
            }
        }
        x.kind(4);
        x.set(0, 16384, 0);
        CHECK.due("2 is a prime with threes", x.parts(0), 14);
        x.kind(0);
        x.set(0, 16384, 0);
        CHECK.due("2 is of two like parts in squares", x.parts(0), 28);
        x.kind(3);
        x.set(0, 16384, 0);
        CHECK.due("2 is of two unlike parts", x.parts(0), 28);
        x.part(1, 0, 13);
        CHECK.holds(x, "the least a first", 1, 0, 1);
        x.part(1, 0, 14);
        CHECK.holds(x, "the greater a behind", 1, 1, -1);
    }
}
