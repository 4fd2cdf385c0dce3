import java.util.ArrayList;
import java.util.HashMap;
import java.util.HashSet;
import java.util.List;
import java.util.Map;
import java.util.Set;
import java.util.TreeSet;

/** The document's terms as it says them, by trying all there is: slow, and with nothing of the program's ways. */
final class Plain {
    record Num(long a, long b) implements Comparable<Num> {
        @Override
        public int compareTo(Num that) {
            return a != that.a ? Long.compare(a, that.a) : Long.compare(b, that.b);
        }
    }

    private static final long[] T = {0, -1, 0, 1, 1};
    private static final long[] N = {1, 1, 2, 2, 3};
    static final Num ZERO = new Num(0, 0);
    static final Num ONE = new Num(1, 0);

    final int kind;
    final long t;
    final long n;
    final List<Num> units = new ArrayList<>();

    Plain(int kind) {
        this.kind = kind;
        t = T[kind];
        n = N[kind];
        for (long a = -3; a <= 3; a++) {
            for (long b = -3; b <= 3; b++) {
                if (size(new Num(a, b)) == 1) {
                    units.add(new Num(a, b));
                }
            }
        }
    }

    static Num plus(Num x, Num y) {
        return new Num(x.a + y.a, x.b + y.b);
    }

    static Num less(Num x, Num y) {
        return new Num(x.a - y.a, x.b - y.b);
    }

    Num times(Num x, Num y) {
        return new Num(x.a * y.a - n * x.b * y.b, x.a * y.b + x.b * y.a + t * x.b * y.b);
    }

    long size(Num x) {
        return x.a * x.a + t * x.a * x.b + n * x.b * x.b;
    }

    Num mirror(Num x) {
        return new Num(x.a + t * x.b, -x.b);
    }

    Num shape(Num x) {
        Num best = null;
        for (Num unit : units) {
            Num y = times(x, unit);
            if (best == null || y.compareTo(best) > 0) {
                best = y;
            }
        }
        return best;
    }

    /** Looks far around the true quotient. */
    Num quotient(Num x, Num y) {
        Num across = times(x, mirror(y));
        long size = size(y);
        long midA = Math.floorDiv(across.a, size);
        long midB = Math.floorDiv(across.b, size);
        Num best = null;
        for (long a = midA - 3; a <= midA + 4; a++) {
            for (long b = midB - 3; b <= midB + 4; b++) {
                Num z = new Num(a, b);
                if (best == null || size(less(x, times(z, y))) < size(less(x, times(best, y)))) {
                    best = z;
                }
            }
        }
        return best;
    }

    Num rest(Num x, Num y) {
        return less(x, times(quotient(x, y), y));
    }

    boolean isPart(Num y, Num x) {
        return !y.equals(ZERO) && rest(x, y).equals(ZERO);
    }

    /** All numbers of a size up to that. */
    List<Num> upTo(long most) {
        List<Num> all = new ArrayList<>();
        long far = 1;
        while (far * far < 4 * most + 4) {
            far++;
        }
        for (long a = -far; a <= far; a++) {
            for (long b = -far; b <= far; b++) {
                if (size(new Num(a, b)) <= most) {
                    all.add(new Num(a, b));
                }
            }
        }
        return all;
    }

    Num common(Num x, Num y) {
        if (x.equals(ZERO) && y.equals(ZERO)) {
            return ZERO;
        }
        long most = x.equals(ZERO) ? size(y) : y.equals(ZERO) ? size(x) : Math.min(size(x), size(y));
        Num best = ONE;
        for (Num z : upTo(most)) {
            if (size(z) > size(best) && isPart(z, x) && isPart(z, y)) {
                best = z;
            }
        }
        return shape(best);
    }

    int bySize(Num x, Num y) {
        return size(x) != size(y) ? Long.compare(size(x), size(y)) : x.compareTo(y);
    }

    /** The primes in x, each in shape, the least first; the unit last. Every part of the least size above 1 is a prime. */
    List<Num> parts(Num x) {
        List<Num> found = new ArrayList<>();
        Num left = x;
        while (size(left) > 1) {
            Num prime = null;
            for (Num z : upTo(size(left))) {
                if (size(z) >= 2 && isPart(z, left) && (prime == null || size(z) < size(prime))) {
                    prime = z;
                }
            }
            prime = shape(prime);
            found.add(prime);
            left = quotient(left, prime);
        }
        found.sort(this::bySize);
        found.add(left);
        return found;
    }

    Set<Num> rests(Num m) {
        Set<Num> all = new TreeSet<>();
        for (Num x : upTo(size(m))) {
            all.add(rest(x, m));
        }
        return all;
    }

    Num power(Num x, long k, Num m) {
        Num power = rest(ONE, m);
        for (long i = 0; i < k; i++) {
            power = rest(times(power, x), m);
        }
        return power;
    }

    /** The least k by which x gets to 1, or -4. */
    long order(Num x, Num m) {
        Num one = rest(ONE, m);
        Num power = rest(x, m);
        for (long k = 1; k <= size(m); k++) {
            if (power.equals(one)) {
                return k;
            }
            power = rest(times(power, x), m);
        }
        return PlaneWholes.NONE;
    }

    Num inverse(Num x, Num m) {
        for (Num y : rests(m)) {
            if (rest(times(x, y), m).equals(rest(ONE, m))) {
                return y;
            }
        }
        return null;
    }

    List<Num> roots(Num x, Num m) {
        List<Num> found = new ArrayList<>();
        for (Num y : rests(m)) {
            if (isPart(m, less(times(y, y), x))) {
                found.add(y);
            }
        }
        return found;
    }

    boolean isBase(Num m) {
        long size = size(m);
        if (size < 2 || size > 100) {
            return false;
        }
        Set<Num> unlike = new HashSet<>();
        for (long d = 0; d < size; d++) {
            unlike.add(rest(new Num(d, 0), m));
        }
        return unlike.size() == size;
    }

    long lastDigit(Num x, Num m) {
        for (long d = 0; d < size(m); d++) {
            if (isPart(m, less(x, new Num(d, 0)))) {
                return d;
            }
        }
        return -1;
    }

    Num after(Num x, Num m) {
        return quotient(less(x, new Num(lastDigit(x, m), 0)), m);
    }

    /** All numbers from x on till one is there again, that one last. */
    List<Num> trail(Num x, Num m) {
        List<Num> trail = new ArrayList<>();
        Num y = x;
        while (!trail.contains(y)) {
            trail.add(y);
            y = after(y, m);
        }
        trail.add(y);
        return trail;
    }

    /** Every number that comes round, told with the least of its ring. */
    Map<Num, Num> rings(Num m, long most) {
        Map<Num, Num> rings = new HashMap<>();
        for (Num x : upTo(most)) {
            List<Num> trail = trail(x, m);
            List<Num> ring = trail.subList(trail.indexOf(trail.get(trail.size() - 1)), trail.size() - 1);
            Num least = ring.stream().min(Num::compareTo).get();
            for (Num y : ring) {
                rings.put(y, least);
            }
        }
        return rings;
    }

    /** Whether x is u (p, 0) + v (r, q). */
    static boolean has(long p, long q, long r, Num x) {
        for (long v = -Math.abs(x.b); v <= Math.abs(x.b); v++) {
            if (v * q == x.b && (x.a - v * r) % p == 0) {
                return true;
            }
        }
        return false;
    }

    /** p, q, r of the net that has these of the numbers with a, b from 0 to side - 1 and comes again every side. */
    static long[] told(boolean[][] in, int side) {
        int p = 1;
        while (p < side && !in[p][0]) {
            p++;
        }
        for (int q = 1; q <= side; q++) {
            for (int r = 0; r < p; r++) {
                if (in[r][q % side]) {
                    return new long[] {p, q, r};
                }
            }
        }
        return new long[] {0, 0, 0};
    }

    /** All sums of these, by a and b off a multiple of side. */
    static boolean[][] sums(List<Num> of, int side) {
        boolean[][] in = new boolean[side][side];
        List<Num> todo = new ArrayList<>();
        in[0][0] = true;
        todo.add(ZERO);
        while (!todo.isEmpty()) {
            Num x = todo.remove(todo.size() - 1);
            for (Num step : of) {
                Num y = new Num(Math.floorMod(x.a + step.a, (long) side), Math.floorMod(x.b + step.b, (long) side));
                if (!in[(int) y.a][(int) y.b]) {
                    in[(int) y.a][(int) y.b] = true;
                    todo.add(y);
                }
            }
        }
        return in;
    }

    Set<Num> leaps(Num m) {
        Set<Num> all = new HashSet<>();
        for (Num unit : units) {
            all.add(times(unit, m));
            all.add(times(unit, mirror(m)));
        }
        return all;
    }

    /** How many leaps lead to each number from -30 to 30. */
    Map<Num, Integer> fewest(Num m) {
        Map<Num, Integer> far = new HashMap<>();
        List<Num> line = new ArrayList<>();
        far.put(ZERO, 0);
        line.add(ZERO);
        for (int i = 0; i < line.size(); i++) {
            for (Num leap : leaps(m)) {
                Num y = plus(line.get(i), leap);
                if (Math.abs(y.a) <= 30 && Math.abs(y.b) <= 30 && !far.containsKey(y)) {
                    far.put(y, far.get(line.get(i)) + 1);
                    line.add(y);
                }
            }
        }
        return far;
    }
}
