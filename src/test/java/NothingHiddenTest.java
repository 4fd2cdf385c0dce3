import java.util.Random;

/** What a call answers and changes hangs on net and registers alone, not on the calls ahead: a used object against a new one. */
public final class NothingHiddenTest {
    private static final Check CHECK = new Check();

    public static void main(String[] args) {
        for (int run = 0; run < 4000; run++) {
            oneRun(run);
        }
        CHECK.end();
    }

    // 14 times 34 calls at most, so that no object is used beyond its 512 calls.
    private static void oneRun(int run) {
        Random random = new Random(run);
        PlaneWholes used = new PlaneWholes();
        int kind = 0;
        for (int step = 0; step < 14; step++) {
            if (random.nextInt(6) == 0) {
                kind = random.nextInt(5);
                used.kind(kind);
            }
            PlaneWholes fresh = alike(used, kind);
            long seed = random.nextLong();
            String told = "run " + run + " step " + step;
            CHECK.due(told, NothingThrownTest.one(used, new Random(seed), 40), NothingThrownTest.one(fresh, new Random(seed), 40));
            CHECK.due(told + " registers", registers(used), registers(fresh));
        }
    }

    private static PlaneWholes alike(PlaneWholes used, int kind) {
        PlaneWholes fresh = new PlaneWholes();
        fresh.kind(kind);
        for (int r = 0; r < 8; r++) {
            fresh.set(r, used.get(r, 0), used.get(r, 1));
        }
        return fresh;
    }

    private static long registers(PlaneWholes x) {
        long mixed = 0;
        for (int r = 0; r < 8; r++) {
            mixed = mixed * 40001 + x.get(r, 0);
            mixed = mixed * 40001 + x.get(r, 1);
        }
        return mixed;
    }
}
