import java.util.Arrays;

/**
 * Whole numbers of the plane, a + b w, in five nets: reckoning, primes, rests, digits, nets within the net, leaps.
 * What each call promises stands in DOC.md, whose words the names here follow.
 */
public final class PlaneWholes {
    public static final int BAD = -1, NO = -2, FULL = -3, NONE = -4;

    private static final int BAD_PLACE = -100000;
    private static final int REGISTERS = 8;
    private static final int FARTHEST = 20000;
    private static final int GREATEST_SIZE = 100000;
    private static final int GREATEST_CIRCLE = 1000000;
    private static final int GREATEST_POWER = 1000000000;
    private static final int GREATEST_BY = 100000;
    private static final int GREATEST_BY_ROOTS = 400;
    private static final int GREATEST_FLOCK = 200;

    // A loop that must end after far fewer steps counts against this.
    private static final int MANY = 1000000;

    private final Net net;
    private final long[] registers;
    private final Making making;
    private final Factors factors;
    private final Residues residues;
    private final Numerals numerals;
    private final Flock flock;
    private final Flock other;
    private final Leaping leaping;

    public PlaneWholes() {
        net = new Net();
        registers = new long[REGISTERS];
        making = new Making(net);
        factors = new Factors(net);
        residues = new Residues(net, making);
        numerals = new Numerals(net);
        flock = new Flock();
        other = new Flock();
        leaping = new Leaping(net);
    }

    // ---- numbers

    public int kind(int kind) {
        if (kind < 0 || kind >= Net.KINDS) {
            return BAD;
        }
        net.become(kind);
        Arrays.fill(registers, 0);
        return net.units;
    }

    public int set(int r, int a, int b) {
        if (!isRegister(r) || !isNear(a) || !isNear(b)) {
            return BAD;
        }
        registers[r] = Net.number(a, b);
        return 0;
    }

    public int get(int r, int what) {
        if (!isRegister(r) || what < 0 || what > 1) {
            return BAD_PLACE;
        }
        return (int) (what == 0 ? Net.first(registers[r]) : Net.second(registers[r]));
    }

    public long size(int r) {
        return isRegister(r) ? net.sizeOf(registers[r]) : BAD;
    }

    public int reckon(int to, int what, int r, int s) {
        if (!isRegister(to) || what < 0 || what > 5 || !isRegister(r) || !isRegister(s)) {
            return BAD;
        }
        if ((what == 3 || what == 4) && registers[s] == 0) {
            return NO;
        }
        return put(to, reckoned(what, registers[r], registers[s]));
    }

    private long reckoned(int what, long x, long y) {
        switch (what) {
            case 0: return Net.plus(x, y);
            case 1: return Net.less(x, y);
            case 2: return net.times(x, y);
            case 3: return net.quotient(x, y);
            case 4: return net.rest(x, y);
            default: return net.common(x, y);
        }
    }

    public int turn(int to, int what, int r) {
        if (!isRegister(to) || what < 0 || what > 2 || !isRegister(r)) {
            return BAD;
        }
        long x = registers[r];
        if (what == 0) {
            return put(to, net.mirror(x));
        }
        return put(to, what == 1 ? net.shape(x) : net.times(x, Net.W));
    }

    public int makes(int toU, int toV, int r, int s) {
        if (!isRegister(toU) || !isRegister(toV) || !isRegister(r) || !isRegister(s)) {
            return BAD;
        }
        if (registers[r] == 0 && registers[s] == 0) {
            return NO;
        }
        making.find(registers[r], registers[s]);
        if (!fits(making.u) || !fits(making.v)) {
            return FULL;
        }
        registers[toU] = making.u;
        registers[toV] = making.v;
        return 0;
    }

    public int like(int r, int s) {
        if (!isRegister(r) || !isRegister(s)) {
            return BAD;
        }
        return net.shape(registers[r]) == net.shape(registers[s]) ? 1 : 0;
    }

    // ---- primes

    public int parts(int r) {
        if (!isRegister(r)) {
            return BAD;
        }
        if (registers[r] == 0) {
            return NO;
        }
        factors.find(registers[r]);
        return factors.count;
    }

    public int part(int to, int r, int i) {
        if (!isRegister(to) || !isRegister(r) || i < 0) {
            return BAD;
        }
        if (registers[r] == 0) {
            return NO;
        }
        factors.find(registers[r]);
        if (i > factors.count) {
            return NONE;
        }
        return put(to, i == factors.count ? factors.left : factors.at(i));
    }

    public int ofSize(int s) {
        if (s < 0 || s > GREATEST_SIZE) {
            return BAD;
        }
        return (int) (net.inCircle(s) - net.inCircle(s - 1));
    }

    public int within(int s) {
        if (s < 0 || s > GREATEST_CIRCLE) {
            return BAD;
        }
        return (int) net.inCircle(s);
    }

    // ---- rests

    public int power(int to, int r, int k, int m) {
        if (!isRegister(to) || !isRegister(r) || k < 0 || k > GREATEST_POWER || !isRegister(m)) {
            return BAD;
        }
        if (!isOfSize(registers[m], GREATEST_BY)) {
            return NO;
        }
        return put(to, residues.raised(registers[r], k, registers[m]));
    }

    public int order(int r, int m) {
        if (!isRegister(r) || !isRegister(m)) {
            return BAD;
        }
        if (!isOfSize(registers[m], GREATEST_BY)) {
            return NO;
        }
        factors.find(registers[m]);
        return residues.leastOrder(registers[r], registers[m], factors.singles());
    }

    public int inverse(int to, int r, int m) {
        if (!isRegister(to) || !isRegister(r) || !isRegister(m)) {
            return BAD;
        }
        if (!isOfSize(registers[m], GREATEST_BY)) {
            return NO;
        }
        if (!residues.findInverse(registers[r], registers[m])) {
            return NONE;
        }
        return put(to, residues.found);
    }

    public int single(int m) {
        if (!isRegister(m)) {
            return BAD;
        }
        if (!isOfSize(registers[m], GREATEST_BY)) {
            return NO;
        }
        factors.find(registers[m]);
        return factors.singles();
    }

    public int roots(int r, int m) {
        if (!isRegister(r) || !isRegister(m)) {
            return BAD;
        }
        if (!isOfSize(registers[m], GREATEST_BY_ROOTS)) {
            return NO;
        }
        return residues.findRoots(registers[r], registers[m], 0);
    }

    public int root(int to, int r, int m, int i) {
        if (!isRegister(to) || !isRegister(r) || !isRegister(m) || i < 0) {
            return BAD;
        }
        if (!isOfSize(registers[m], GREATEST_BY_ROOTS)) {
            return NO;
        }
        if (i >= residues.findRoots(registers[r], registers[m], i)) {
            return NONE;
        }
        return put(to, residues.found);
    }

    // ---- digits

    public int digit(int r, int m, int i) {
        if (!isRegister(r) || !isRegister(m) || i < 0) {
            return BAD;
        }
        if (!numerals.takeBase(registers[m])) {
            return NO;
        }
        numerals.measure(registers[r]);
        return numerals.digitAt(registers[r], i);
    }

    public int digits(int r, int m, int what) {
        if (!isRegister(r) || !isRegister(m) || what < 0 || what > 2) {
            return BAD;
        }
        if (!numerals.takeBase(registers[m])) {
            return NO;
        }
        numerals.measure(registers[r]);
        if (what == 2) {
            return numerals.sum(registers[r]);
        }
        return what == 0 ? numerals.tail : numerals.round;
    }

    public int rounds(int m, int what) {
        if (!isRegister(m) || what < 0 || what > 1) {
            return BAD;
        }
        if (!numerals.takeBase(registers[m])) {
            return NO;
        }
        numerals.findRings();
        return what == 0 ? numerals.rings : numerals.ringed;
    }

    // ---- flocks

    public int flocks(int n, int what) {
        if (n < 1 || n > GREATEST_FLOCK || what < 0 || what > 1) {
            return BAD;
        }
        int count = 0;
        for (int q = 1; q <= n; q++) {
            if (n % q == 0) {
                count += what == 0 ? n / q : closedOnes(n / q, q);
            }
        }
        return count;
    }

    private int closedOnes(int p, int q) {
        int count = 0;
        for (int r = 0; r < p; r++) {
            flock.become(p, q, r);
            if (flock.isClosed(net)) {
                count++;
            }
        }
        return count;
    }

    public int flock(int n, int k, int what) {
        if (n < 1 || n > GREATEST_FLOCK || k < 0 || what < 0 || what > 5) {
            return BAD;
        }
        if (!takeRanked(n, k)) {
            return NONE;
        }
        switch (what) {
            case 3: return flock.isClosed(net) ? 1 : 0;
            case 4: return flock.shortest(net, false);
            case 5: return flock.shortest(net, true);
            default: return flock.told(what);
        }
    }

    private boolean takeRanked(int n, int k) {
        int ahead = 0;
        for (int q = 1; q <= n; q++) {
            if (n % q == 0) {
                int p = n / q;
                if (k - ahead < p) {
                    flock.become(p, q, k - ahead);
                    return true;
                }
                ahead += p;
            }
        }
        return false;
    }

    public int has(int p, int q, int r, int x) {
        if (!isFlock(p, q, r) || !isRegister(x)) {
            return BAD;
        }
        flock.become(p, q, r);
        return flock.holds(Net.first(registers[x]), Net.second(registers[x])) ? 1 : 0;
    }

    public int joined(int p, int q, int r, int p2, int q2, int r2, boolean meet, int what) {
        if (!isFlock(p, q, r) || !isFlock(p2, q2, r2) || what < 0 || what > 2) {
            return BAD;
        }
        flock.become(p, q, r);
        other.become(p2, q2, r2);
        if (meet) {
            flock.meet(other);
        } else {
            flock.add(p2, 0);
            flock.add(r2, q2);
        }
        return flock.isAbove(GREATEST_FLOCK) ? NO : flock.told(what);
    }

    public int turned(int p, int q, int r, int x, int what) {
        if (!isFlock(p, q, r) || !isRegister(x) || what < 0 || what > 2) {
            return BAD;
        }
        if (registers[x] == 0) {
            return NO;
        }
        flock.become(0, 0, 0);
        flock.addNumber(net.times(Net.number(p, 0), registers[x]));
        flock.addNumber(net.times(Net.number(r, q), registers[x]));
        return flock.isAbove(GREATEST_FLOCK) ? NO : flock.told(what);
    }

    // ---- leaps

    public long where(int m) {
        if (!isRegister(m)) {
            return BAD;
        }
        if (registers[m] == 0) {
            return NO;
        }
        leaping.collect(registers[m]);
        flock.become(0, 0, 0);
        for (int i = 0; i < leaping.count; i++) {
            flock.addNumber(leaping.leaps[i]);
        }
        long index = flock.p * flock.q;
        return index == 0 ? NONE : index;
    }

    public int leaps(int m, int x) {
        if (!isRegister(m) || !isRegister(x)) {
            return BAD;
        }
        if (registers[m] == 0) {
            return NO;
        }
        leaping.collect(registers[m]);
        return leaping.fewest(registers[x]);
    }

    // ---- what the calls share

    private static boolean isRegister(int r) {
        return r >= 0 && r < REGISTERS;
    }

    private static boolean isNear(long part) {
        return part >= -FARTHEST && part <= FARTHEST;
    }

    private static boolean fits(long x) {
        return isNear(Net.first(x)) && isNear(Net.second(x));
    }

    private static boolean isFlock(int p, int q, int r) {
        return p >= 1 && p <= GREATEST_FLOCK && q >= 1 && q <= GREATEST_FLOCK && r >= 0 && r < p;
    }

    private boolean isOfSize(long m, int most) {
        long size = net.sizeOf(m);
        return size >= 2 && size <= most;
    }

    private int put(int to, long x) {
        if (!isRegister(to) || !fits(x)) {
            return FULL;
        }
        registers[to] = x;
        return 0;
    }

    /** Division that answers 0 where there is nothing to divide by. */
    private static long ratio(long x, long y) {
        return y == 0 ? 0 : x / y;
    }

    private static boolean divides(long y, long x) {
        return y != 0 && x % y == 0;
    }

    private static long gcd(long x, long y) {
        long big = Math.abs(x);
        long small = Math.abs(y);
        for (int step = 0; step < MANY && small != 0; step++) {
            long left = big % small;
            big = small;
            small = left;
        }
        return big;
    }

    /**
     * The net of a kind and its arithmetic. A number a + b w stands in one long, a in the upper half and b in the
     * lower, so that reckoning makes no object; no number that comes up has a part beyond an int.
     */
    private static final class Net {
        static final int KINDS = 5;
        static final long ONE = 1L << 32;
        static final long W = 1;

        private static final int[] T = {0, -1, 0, 1, 1};
        private static final int[] N = {1, 1, 2, 2, 3};

        private int t;
        private int n;
        private int units;
        // All units are the powers of this one.
        private long spin;

        Net() {
            become(0);
        }

        void become(int kind) {
            if (kind < 0 || kind >= KINDS) {
                return;
            }
            t = T[kind];
            n = N[kind];
            units = kind == 0 ? 4 : kind == 1 ? 6 : 2;
            spin = kind == 0 ? W : kind == 1 ? number(1, 1) : number(-1, 0);
        }

        static long number(long a, long b) {
            return a << 32 | b & 0xFFFFFFFFL;
        }

        static long first(long x) {
            return x >> 32;
        }

        static long second(long x) {
            return (int) x;
        }

        static long plus(long x, long y) {
            return number(first(x) + first(y), second(x) + second(y));
        }

        static long less(long x, long y) {
            return number(first(x) - first(y), second(x) - second(y));
        }

        static boolean isGreater(long x, long y) {
            return first(x) > first(y) || first(x) == first(y) && second(x) > second(y);
        }

        long times(long x, long y) {
            long ends = second(x) * second(y);
            return number(first(x) * first(y) - n * ends, first(x) * second(y) + second(x) * first(y) + t * ends);
        }

        long sizeOf(long x) {
            long a = first(x);
            long b = second(x);
            return a * a + t * a * b + n * b * b;
        }

        long mirror(long x) {
            return number(first(x) + t * second(x), -second(x));
        }

        /** The unit by which x comes into its shape. */
        long shaper(long x) {
            long unit = ONE;
            long best = ONE;
            long shaped = x;
            for (int i = 1; i < units; i++) {
                unit = times(unit, spin);
                long y = times(unit, x);
                if (isGreater(y, shaped)) {
                    best = unit;
                    shaped = y;
                }
            }
            return best;
        }

        long shape(long x) {
            return times(shaper(x), x);
        }

        // x times the mirror of y, whose parts can be beyond an int: its a ..
        private long acrossA(long x, long y) {
            return first(x) * (first(y) + t * second(y)) + n * second(x) * second(y);
        }

        // .. and its b.
        private static long acrossB(long x, long y) {
            return second(x) * first(y) - first(x) * second(y);
        }

        /**
         * The nearest is one of the four corners around the true quotient: each net is made of triangles (half the tile
         * of 1 and w) with no angle above a right one, and in such a triangle no other corner is as near as its own.
         */
        long quotient(long x, long y) {
            long size = sizeOf(y);
            if (size == 0) {
                return 0;
            }
            long a = Math.floorDiv(acrossA(x, y), size);
            long b = Math.floorDiv(acrossB(x, y), size);
            long best = number(a, b);
            long least = sizeOf(less(x, times(best, y)));
            // By a, then b, so that of several as near the first stays.
            for (int corner = 1; corner < 4; corner++) {
                long z = number(a + corner / 2, b + corner % 2);
                long size2 = sizeOf(less(x, times(z, y)));
                if (size2 < least) {
                    best = z;
                    least = size2;
                }
            }
            return best;
        }

        long rest(long x, long y) {
            return less(x, times(quotient(x, y), y));
        }

        boolean isPart(long y, long x) {
            long size = sizeOf(y);
            return divides(size, acrossA(x, y)) && divides(size, acrossB(x, y));
        }

        /** x by its part y. */
        long dividedBy(long x, long y) {
            long size = sizeOf(y);
            return number(ratio(acrossA(x, y), size), ratio(acrossB(x, y), size));
        }

        long common(long x, long y) {
            long big = x;
            long small = y;
            for (int step = 0; step < MANY && small != 0; step++) {
                long left = rest(big, small);
                big = small;
                small = left;
            }
            return shape(big);
        }

        /** A prime that the whole prime d has as a part: of size d, if there is one, else d. */
        long primeAbove(long d) {
            long wide = 4 * n - t * t;
            for (long b = 0; b < MANY && wide * b * b <= 4 * d; b++) {
                long square = 4 * d - wide * b * b;
                long side = squareRoot(square);
                if (side * side == square && (side - t * b) % 2 == 0) {
                    return number((side - t * b) / 2, b);
                }
            }
            return number(d, 0);
        }

        /** How many numbers are of size s at most: 4 SIZE is (2 a + t b) squared and b squared some times. */
        long inCircle(long s) {
            long wide = 4 * n - t * t;
            long side = squareRoot(4 * s);
            long count = 0;
            for (long b = 0; b < MANY && wide * b * b <= 4 * s; b++) {
                while (side > 0 && side * side > 4 * s - wide * b * b) {
                    side--;
                }
                boolean even = t * b % 2 == 0;
                long row = even ? side / 2 * 2 + 1 : (side + 1) / 2 * 2;
                count += b == 0 ? row : 2 * row;
            }
            return count;
        }

        private static long squareRoot(long x) {
            long root = 0;
            for (long bit = 1L << 20; bit > 0; bit >>= 1) {
                if ((root + bit) * (root + bit) <= x) {
                    root += bit;
                }
            }
            return root;
        }
    }

    /** What two numbers have in common, and the two by which they make it. */
    private static final class Making {
        private final Net net;
        private long common;
        private long u;
        private long v;

        Making(Net net) {
            this.net = net;
        }

        void find(long r, long s) {
            common = r;
            u = Net.ONE;
            v = 0;
            long next = s;
            long nextU = 0;
            long nextV = Net.ONE;
            for (int step = 0; step < MANY && next != 0; step++) {
                long q = net.quotient(common, next);
                long after = Net.less(common, net.times(q, next));
                long afterU = Net.less(u, net.times(q, nextU));
                long afterV = Net.less(v, net.times(q, nextV));
                common = next;
                u = nextU;
                v = nextV;
                next = after;
                nextU = afterU;
                nextV = afterV;
            }
            long unit = net.shaper(common);
            common = net.times(unit, common);
            u = net.times(unit, u);
            v = net.times(unit, v);
        }
    }

    /** The parts of a number, and the unit that is left. */
    private static final class Factors {
        private final Net net;
        // A size below 2 to the 31st has at most 30 prime parts.
        private final long[] primes = new long[40];
        private int count;
        private long left;

        Factors(Net net) {
            this.net = net;
        }

        long at(int i) {
            return i >= 0 && i < count && i < primes.length ? primes[i] : 0;
        }

        void find(long x) {
            count = 0;
            left = x;
            long size = net.sizeOf(x);
            for (long d = 2; d < MANY && d * d <= size; d += d == 2 ? 1 : 2) {
                long prime = divides(d, size) ? net.primeAbove(d) : 0;
                for (int i = 0; i < primes.length && divides(d, size); i++) {
                    take(net.isPart(prime, left) ? prime : net.mirror(prime));
                    size = net.sizeOf(left);
                }
            }
            // No whole prime is left in its size but one at most: it is a prime itself.
            if (size > 1) {
                take(left);
            }
        }

        private void take(long prime) {
            if (count >= primes.length) {
                return;
            }
            long shaped = net.shape(prime);
            left = net.dividedBy(left, shaped);
            int place = count;
            while (place > 0 && isAhead(shaped, primes[place - 1])) {
                primes[place] = primes[place - 1];
                place--;
            }
            primes[place] = shaped;
            count++;
        }

        private boolean isAhead(long x, long y) {
            long bySize = net.sizeOf(x) - net.sizeOf(y);
            return bySize < 0 || bySize == 0 && Net.isGreater(y, x);
        }

        /** How many rests by the number of these parts have an inverse. */
        int singles() {
            long product = 1;
            for (int i = 0; i < count; i++) {
                boolean again = i > 0 && primes[i] == primes[i - 1];
                product *= net.sizeOf(primes[i]) - (again ? 0 : 1);
            }
            return (int) product;
        }
    }

    /** Reckoning by rests. */
    private static final class Residues {
        // A rest by a number of size 400 has no part beyond this.
        private static final int FAR = 20;

        private final Net net;
        private final Making making;
        private long found;

        Residues(Net net, Making making) {
            this.net = net;
            this.making = making;
        }

        long raised(long x, int k, long m) {
            long power = net.rest(Net.ONE, m);
            long square = net.rest(x, m);
            for (int left = k; left > 0; left >>= 1) {
                if ((left & 1) != 0) {
                    power = net.rest(net.times(power, square), m);
                }
                square = net.rest(net.times(square, square), m);
            }
            return power;
        }

        /** The order is what stays of the number of single rests once every prime that can go has gone. */
        int leastOrder(long x, long m, int singles) {
            if (net.sizeOf(net.common(x, m)) != 1) {
                return NONE;
            }
            long one = net.rest(Net.ONE, m);
            int order = singles;
            int left = singles;
            for (int d = 2; d <= left; d++) {
                while (left > 1 && left % d == 0) {
                    left /= d;
                    if (raised(x, order / d, m) == one) {
                        order /= d;
                    }
                }
            }
            return order;
        }

        boolean findInverse(long x, long m) {
            making.find(x, m);
            if (net.sizeOf(making.common) != 1) {
                return false;
            }
            // A unit times its mirror is 1.
            found = net.rest(net.times(making.u, net.mirror(making.common)), m);
            return true;
        }

        /** Counts the roots and keeps the one of that rank. */
        int findRoots(long x, long m, int rank) {
            int count = 0;
            for (int a = -FAR; a <= FAR; a++) {
                for (int b = -FAR; b <= FAR; b++) {
                    long y = Net.number(a, b);
                    if (net.isPart(m, Net.less(net.times(y, y), x)) && net.quotient(y, m) == 0) {
                        if (count == rank) {
                            found = y;
                        }
                        count++;
                    }
                }
            }
            return count;
        }
    }

    /** Digits by a base. */
    private static final class Numerals {
        private static final int GREATEST_BASE = 100;
        // No number that comes round by any base has a part beyond this.
        private static final int FAR = 12;
        private static final int SIDE = 2 * FAR + 1;
        // More steps than any number takes to come round.
        private static final int LONG_WALK = 1000;

        private final Net net;
        private final int[] marks = new int[SIDE * SIDE];
        private long base;
        private int size;
        private int digitOfW;
        private int tail;
        private int round;
        private int rings;
        private int ringed;

        Numerals(Net net) {
            this.net = net;
        }

        boolean takeBase(long m) {
            long sizeOfM = net.sizeOf(m);
            if (sizeOfM < 2 || sizeOfM > GREATEST_BASE) {
                return false;
            }
            base = m;
            size = (int) sizeOfM;
            digitOfW = 0;
            for (int d = 1; d < size; d++) {
                if (net.isPart(m, Net.number(d, 0))) {
                    return false;
                }
                if (net.isPart(m, Net.less(Net.W, Net.number(d, 0)))) {
                    digitOfW = d;
                }
            }
            return true;
        }

        private int lastDigit(long x) {
            return size < 1 ? 0 : (int) Math.floorMod(Net.first(x) + Net.second(x) * digitOfW, (long) size);
        }

        private long after(long x) {
            return net.dividedBy(Net.less(x, Net.number(lastDigit(x), 0)), base);
        }

        /** Finds tail and round; 0 stays 0, a ring of one that does not count as a round. */
        void measure(long x) {
            long inRing = x;
            for (int i = 0; i < LONG_WALK; i++) {
                inRing = after(inRing);
            }
            int ring = ringLength(inRing);
            long behind = x;
            long ahead = x;
            for (int i = 0; i < ring; i++) {
                ahead = after(ahead);
            }
            tail = 0;
            while (tail < LONG_WALK && behind != ahead) {
                behind = after(behind);
                ahead = after(ahead);
                tail++;
            }
            round = inRing == 0 ? 0 : ring;
        }

        private int ringLength(long x) {
            int length = 1;
            long y = after(x);
            while (length < LONG_WALK && y != x) {
                y = after(y);
                length++;
            }
            return length;
        }

        int digitAt(long x, int i) {
            if (i >= tail && round == 0) {
                return 0;
            }
            int steps = i < tail || round == 0 ? i : tail + (i - tail) % round;
            long y = x;
            for (int step = 0; step < steps; step++) {
                y = after(y);
            }
            return lastDigit(y);
        }

        int sum(long x) {
            int sum = 0;
            long y = x;
            for (int i = 0; i < tail + round; i++) {
                sum += lastDigit(y);
                y = after(y);
            }
            return sum;
        }

        /** Every ring lies where |x| is at most the root of the base's size and 1; from there no step leads out. */
        void findRings() {
            Arrays.fill(marks, 0);
            rings = 0;
            ringed = 0;
            int steps = 0;
            for (int a = -FAR; a <= FAR; a++) {
                for (int b = -FAR; b <= FAR; b++) {
                    long over = net.sizeOf(Net.number(a, b)) - size - 1;
                    if (over <= 0 || over * over <= 4L * size) {
                        steps = follow(Net.number(a, b), steps);
                    }
                }
            }
        }

        /** Marks each new number from x on with the count of all steps; a mark of this very walk closes a ring. */
        private int follow(long x, int stepsAhead) {
            int steps = stepsAhead;
            long y = x;
            int place = place(y);
            while (steps <= marks.length && place >= 0 && marks[place] == 0) {
                steps++;
                marks[place] = steps;
                y = after(y);
                place = place(y);
            }
            if (place >= 0 && marks[place] > stepsAhead) {
                rings++;
                ringed += steps + 1 - marks[place];
            }
            return steps;
        }

        private static int place(long x) {
            long a = Net.first(x) + FAR;
            long b = Net.second(x) + FAR;
            return a < 0 || a >= SIDE || b < 0 || b >= SIDE ? -1 : (int) (a * SIDE + b);
        }
    }

    /** A net within the net: all u (p, 0) + v (r, q). While it is built up p or q may be 0. */
    private static final class Flock {
        private long p;
        private long q;
        private long r;

        void become(long newP, long newQ, long newR) {
            p = newP;
            q = newQ;
            r = newR;
        }

        int told(int what) {
            return (int) (what == 0 ? p : what == 1 ? q : r);
        }

        boolean isAbove(int most) {
            return p > most || q > most;
        }

        boolean holds(long a, long b) {
            return divides(q, b) && divides(p, a - ratio(b, q) * r);
        }

        boolean isClosed(Net net) {
            long turned = net.times(Net.number(r, q), Net.W);
            return holds(0, p) && holds(Net.first(turned), Net.second(turned));
        }

        void addNumber(long x) {
            add(Net.first(x), Net.second(x));
        }

        /** Takes in a + b w: by steps of Euclid on the second parts one of the two comes to lie on the line of p. */
        void add(long a, long b) {
            long moreA = a;
            long moreB = b;
            for (int step = 0; step < MANY && moreB != 0; step++) {
                long k = q / moreB;
                long leftA = r - k * moreA;
                long leftB = q - k * moreB;
                r = moreA;
                q = moreB;
                moreA = leftA;
                moreB = leftB;
            }
            p = gcd(p, moreA);
            if (q < 0) {
                q = -q;
                r = -r;
            }
            if (p > 0) {
                r = Math.floorMod(r, p);
            }
        }

        /** Becomes what is also in that one: its r is looked for only where p and q are small enough to tell. */
        void meet(Flock that) {
            long commonP = gcd(p, that.p);
            long level = ratio(q, gcd(q, that.q)) * that.q;
            long off = r * ratio(level, q) - that.r * ratio(level, that.q);
            long meetP = ratio(p, commonP) * that.p;
            long meetQ = level * ratio(commonP, gcd(commonP, off));
            long meetR = 0;
            if (meetP <= GREATEST_FLOCK && meetQ <= GREATEST_FLOCK) {
                while (meetR < meetP && !(holds(meetR, meetQ) && that.holds(meetR, meetQ))) {
                    meetR++;
                }
            }
            become(meetP, meetQ, meetR);
        }

        /** The least size above 0, or how many are of it. */
        int shortest(Net net, boolean howMany) {
            long g = Net.number(p, 0);
            long h = Net.number(r, q);
            for (int step = 0; step < MANY; step++) {
                if (net.sizeOf(h) < net.sizeOf(g)) {
                    long longer = g;
                    g = h;
                    h = longer;
                }
                long k = nearestMultiple(net, g, h);
                if (k == 0) {
                    break;
                }
                h = Net.less(h, net.times(Net.number(k, 0), g));
            }
            return howMany ? countShortest(net, g, h) : (int) net.sizeOf(g);
        }

        // How often g must be taken from h so that h gets shortest.
        private static long nearestMultiple(Net net, long g, long h) {
            long size = net.sizeOf(g);
            long twiceAlong = net.sizeOf(Net.plus(g, h)) - size - net.sizeOf(h);
            return size == 0 ? 0 : Math.floorDiv(twiceAlong + size, 2 * size);
        }

        // Once g and h are as short as can be, no other sum of them is as short as g.
        private static int countShortest(Net net, long g, long h) {
            long least = net.sizeOf(g);
            int count = net.sizeOf(h) == least ? 4 : 2;
            count += net.sizeOf(Net.plus(g, h)) == least ? 2 : 0;
            count += net.sizeOf(Net.less(g, h)) == least ? 2 : 0;
            return count;
        }
    }

    /** Leaps of one sort; a row of numbers of one b stands in the bits of a long. */
    private static final class Leaping {
        private static final int FAR = 30;
        private static final int SIDE = 2 * FAR + 1;
        private static final long WHOLE_ROW = (1L << SIDE) - 1;

        private final Net net;
        private final long[] leaps = new long[12];
        private final long[] seen = new long[SIDE];
        private final long[] edge = new long[SIDE];
        private final long[] next = new long[SIDE];
        private int count;

        Leaping(Net net) {
            this.net = net;
        }

        void collect(long m) {
            count = 0;
            long leap = m;
            long mirrored = net.mirror(m);
            for (int i = 0; i < net.units && count + 2 <= leaps.length; i++) {
                leaps[count] = leap;
                leaps[count + 1] = mirrored;
                count += 2;
                leap = net.times(leap, net.spin);
                mirrored = net.times(mirrored, net.spin);
            }
        }

        int fewest(long x) {
            long column = Net.first(x) + FAR;
            long row = Net.second(x) + FAR;
            if (column < 0 || column >= SIDE || row < 0 || row >= SIDE) {
                return NONE;
            }
            Arrays.fill(seen, 0);
            Arrays.fill(edge, 0);
            seen[FAR] = 1L << FAR;
            edge[FAR] = 1L << FAR;
            for (int steps = 0; steps <= SIDE * SIDE; steps++) {
                if ((seen[(int) row] >>> column & 1) != 0) {
                    return steps;
                }
                if (!spread()) {
                    return NONE;
                }
            }
            return NONE;
        }

        /** One leap on from the edge; false if that leads to nothing new. */
        private boolean spread() {
            Arrays.fill(next, 0);
            for (int i = 0; i < count; i++) {
                leapFromEdge(Net.first(leaps[i]), Net.second(leaps[i]));
            }
            boolean any = false;
            for (int row = 0; row < SIDE; row++) {
                edge[row] = next[row] & ~seen[row];
                seen[row] |= edge[row];
                any |= edge[row] != 0;
            }
            return any;
        }

        private void leapFromEdge(long byA, long byB) {
            if (byA <= -SIDE || byA >= SIDE || byB <= -SIDE || byB >= SIDE) {
                return;
            }
            int low = (int) Math.max(0, -byB);
            int high = (int) Math.min(SIDE, SIDE - byB);
            for (int row = low; row < high; row++) {
                long moved = byA >= 0 ? edge[row] << byA : edge[row] >>> -byA;
                next[row + (int) byB] |= moved & WHOLE_ROW;
            }
        }
    }
}
