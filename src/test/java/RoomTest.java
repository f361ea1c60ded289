import com.sun.management.ThreadMXBean;
import java.lang.management.ManagementFactory;

/**
 * All calls of a run live in one room of 7.3 million fields and elements and 600,000 objects. A field or an element
 * is a byte at least, and an object sixteen, so a run that takes fewer bytes than that keeps to the room.
 */
public final class RoomTest {
    private static final long ROOM = 7_300_000;
    private static final int CALLS = 512;

    public static void main(String[] args) {
        Checks.same("writes of a long content stay in the room", inRoom(RoomTest::writes), 1);
        Checks.same("sessions stay in the room", inRoom(RoomTest::sessions), 1);
        Checks.same("looks stay in the room", inRoom(RoomTest::looks), 1);
        Checks.finish();
    }

    private static int inRoom(Runnable run) {
        ThreadMXBean threads = (ThreadMXBean) ManagementFactory.getThreadMXBean();
        run.run();
        long before = threads.getCurrentThreadAllocatedBytes();
        run.run();
        long taken = threads.getCurrentThreadAllocatedBytes() - before;
        System.out.println(taken + " bytes taken");
        return taken < ROOM ? 1 : 0;
    }

    private static void writes() {
        MirrorKeep x = new MirrorKeep();
        Checks.file(x, "f");
        Checks.fill(x, 1500);
        for (int i = 0; i < CALLS; i++) {
            x.write(0);
        }
    }

    private static void sessions() {
        MirrorKeep x = new MirrorKeep();
        for (int i = 0; i < CALLS / 2; i++) {
            x.begin(i);
            x.step(200);
            if (x.about(1) == 40) {
                x.prune(i);
            }
        }
    }

    private static void looks() {
        MirrorKeep x = new MirrorKeep();
        Checks.sixty(x, "d");
        Checks.keep(x, 1);
        Checks.choose(x, "d/7");
        x.set(1, 1);
        for (int i = 0; i < CALLS; i++) {
            x.differ();
            x.restore(1);
            x.about(i);
            x.entry(2, i, 0);
        }
    }
}
