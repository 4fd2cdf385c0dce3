import java.lang.management.ManagementFactory;

/** The room that a run takes: the dearest calls, 512 of each, are to make next to nothing. */
public final class RoomTest {
    private static final Check CHECK = new Check();

    public static void main(String[] args) {
        com.sun.management.ThreadMXBean threads = (com.sun.management.ThreadMXBean) ManagementFactory.getThreadMXBean();
        long self = Thread.currentThread().getId();
        run(0);
        for (int kind = 0; kind < 5; kind++) {
            long before = threads.getThreadAllocatedBytes(self);
            run(kind);
            long bytes = threads.getThreadAllocatedBytes(self) - before;
            CHECK.due("room of kind " + kind + " (" + bytes + " bytes)", bytes < 100000 ? 1 : 0, 1);
        }
        CHECK.end();
    }

    private static void run(int kind) {
        PlaneWholes x = new PlaneWholes();
        x.kind(kind);
        x.set(0, 20000, 19997);
        x.set(1, 97, 64);
        x.set(2, 1, 4);
        x.set(3, 12, 5);
        x.set(4, 2, 1);
        x.set(5, 30, 29);
        for (int i = 0; i < 32; i++) {
            x.parts(0);
            x.makes(6, 7, 0, 1);
            x.within(1000000);
            x.power(6, 0, 999999999, 1);
            x.order(0, 1);
            x.inverse(6, 0, 1);
            x.single(1);
            x.roots(0, 3);
            x.digits(0, 2, 2);
            x.rounds(2, 1);
            x.flocks(180, 1);
            x.flock(180, 100, 5);
            x.joined(150, 100, 75, 100, 150, 60, true, 2);
            x.turned(7, 5, 3, 4, 2);
            x.where(0);
            x.leaps(4, 5);
        }
    }
}
