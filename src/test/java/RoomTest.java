import com.sun.management.ThreadMXBean;
import java.lang.management.ManagementFactory;

/**
 * All calls of a run live in one room of 7.3 million fields and elements and 600,000 objects. A field or an element
 * is a byte at least, and an object sixteen, so a run that takes fewer bytes than that keeps to the room. The runs
 * here have more than an object's 512 calls, to be dearer than any that counts.
 */
public final class RoomTest extends KeepCases {
    private static final long ROOM = 7_300_000;
    private static final int CALLS = 512;

    public static void main(String[] args) {
        run(RoomTest.class);
    }

    @Case("at most 512 calls")
    void writesOfALongContent() {
        isInRoom(() -> new RoomTest().writes());
    }

    @Case("at most 512 calls")
    void sessions() {
        isInRoom(() -> new RoomTest().sessionsAndPrunes());
    }

    @Case("at most 512 calls")
    void looks() {
        isInRoom(() -> new RoomTest().looksAtFullTrees());
    }

    private void isInRoom(Runnable run) {
        ThreadMXBean threads = (ThreadMXBean) ManagementFactory.getThreadMXBean();
        // What is taken only once, to load classes, is no part of a run.
        run.run();
        long before = threads.getCurrentThreadAllocatedBytes();
        run.run();
        long taken = threads.getCurrentThreadAllocatedBytes() - before;
        same("a run that took " + taken + " bytes is in the room", taken < ROOM ? 1 : 0, 1);
    }

    private void writes() {
        file("f");
        fill(1500);
        for (int i = 0; i < CALLS; i++) {
            x.write(0);
        }
    }

    private void sessionsAndPrunes() {
        for (int i = 0; i < CALLS / 2; i++) {
            x.begin(i);
            x.step(200);
            if (x.about(1) == 40) {
                x.prune(i);
            }
        }
    }

    private void looksAtFullTrees() {
        sixty("d");
        keep(1);
        choose("d/7");
        x.set(1, 1);
        for (int i = 0; i < CALLS; i++) {
            x.differ();
            x.restore(1);
            x.about(i);
            x.entry(RESULT, i, 0);
        }
    }
}
