import java.util.Random;

/** Runs of any calls with any numbers: nothing is thrown, registers hold what they may, and a run tells the same twice. */
public final class NothingThrownTest {
    private static final int[] ODD = {Integer.MIN_VALUE, Integer.MAX_VALUE, -20001, 20001, -1, 8, 0, 1, 2, 3, 5, 6, 7, 200, 201};
    private static final Check CHECK = new Check();

    public static void main(String[] args) {
        for (int run = 0; run < 400; run++) {
            CHECK.due("run " + run + " once more", oneRun(run), oneRun(run));
        }
        CHECK.end();
    }

    private static long oneRun(int seed) {
        Random random = new Random(seed);
        PlaneWholes x = new PlaneWholes();
        x.kind(seed % 5);
        int oddity = seed % 3 == 0 ? 4 : 40;
        long mixed = 0;
        for (int call = 0; call < 495; call++) {
            mixed = mixed * 31 + (random.nextInt(600) == 0 ? x.kind(pick(random, oddity, 5)) : one(x, random, oddity));
        }
        for (int r = 0; r < 8; r++) {
            for (int what = 0; what < 2; what++) {
                mixed = mixed * 31 + x.get(r, what);
                CHECK.due("get", Math.abs(x.get(r, what)) <= 20000 ? 1 : 0, 1);
            }
        }
        return mixed;
    }

    private static int pick(Random random, int oddity, int most) {
        return random.nextInt(oddity) == 0 ? ODD[random.nextInt(ODD.length)] : random.nextInt(most);
    }

    private static int part(Random random, int oddity) {
        int most = random.nextInt(4) == 0 ? 20000 : random.nextInt(3) == 0 ? 200 : 10;
        return pick(random, oddity, 2 * most + 1) - most;
    }

    /** Any call but kind. */
    static long one(PlaneWholes x, Random random, int oddity) {
        int r = pick(random, oddity, 8);
        int s = pick(random, oddity, 8);
        int m = pick(random, oddity, 8);
        int to = pick(random, oddity, 8);
        int p = pick(random, oddity, 200) + 1;
        int q = pick(random, oddity, 200) + 1;
        int in = pick(random, oddity, Math.max(1, Math.min(p, 200)));
        switch (random.nextInt(31)) {
            case 1: return x.get(r, pick(random, oddity, 2));
            case 2: return x.size(r);
            case 3: return x.reckon(to, pick(random, oddity, 6), r, s);
            case 4: return x.turn(to, pick(random, oddity, 3), r);
            case 5: return x.makes(to, m, r, s);
            case 6: return x.like(r, s);
            case 7: return x.parts(r);
            case 8: return x.part(to, r, pick(random, oddity, 5));
            case 9: return x.ofSize(pick(random, oddity, 100001));
            case 10: return x.within(pick(random, oddity, 1000001));
            case 11: return x.power(to, r, pick(random, oddity, 1000000001), m);
            case 12: return x.order(r, m);
            case 13: return x.inverse(to, r, m);
            case 14: return x.single(m);
            case 15: return x.roots(r, m);
            case 16: return x.root(to, r, m, pick(random, oddity, 3));
            case 17: return x.digit(r, m, pick(random, oddity, 40));
            case 18: return x.digits(r, m, pick(random, oddity, 3));
            case 19: return x.rounds(m, pick(random, oddity, 2));
            case 20: return x.flocks(p, pick(random, oddity, 2));
            case 21: return x.flock(p, pick(random, oddity, 400), pick(random, oddity, 6));
            case 22: return x.has(p, q, in, r);
            case 23: return x.joined(p, q, in, q, p, pick(random, oddity, Math.max(1, Math.min(q, 200))), random.nextBoolean(), pick(random, oddity, 3));
            case 24: return x.turned(p, q, in, r, pick(random, oddity, 3));
            case 25: return x.where(m);
            case 26: return x.leaps(m, r);
            default: return x.set(r, part(random, oddity), part(random, oddity));
        }
    }
}
