import java.lang.management.ManagementFactory;

/**
 * All calls of a run live in one room of some 600,000 objects and 7.3 million fields and elements: the
 * dearest runs are made and what they take is counted, in bytes, as nothing else can be seen from outside.
 */
public final class RoomTest {
    private static final Check CHECK = new Check("RoomTest");
    /** Of the 512 calls of an object what is left when its yard is built. */
    private static final int CALLS = 390;
    /** The room's objects at 16 bytes and its elements at 4 would take 39 million. */
    private static final long MOST_BYTES = 8000000;
    private static final com.sun.management.ThreadMXBean THREADS =
            (com.sun.management.ThreadMXBean) ManagementFactory.getThreadMXBean();

    public static void main(String[] args) {
        THREADS.getCurrentThreadAllocatedBytes();
        looking();
        makingAnew();
        movingBetweenTwo();
        newRows();
        settling();
        CHECK.end();
    }

    private static long bytes() {
        return THREADS.getCurrentThreadAllocatedBytes();
    }

    private static StackYard full() {
        StackYard yard = Build.plain(10, 10, 10);
        yard.kind(1, 1, 15, 1, false);
        yard.fill(0, 1, 0);
        return yard;
    }

    private static void looking() {
        StackYard yard = full();
        yard.share(0, 1);
        yard.put(0, 5, 5, 5, 2);
        long before = bytes();
        for (int call = 0; call < CALLS; call += 10) {
            yard.parts(0);
            yard.partOf(0, 0, 3);
            yard.light(0, 9, 9, 9);
            yard.dark(0, 15);
            yard.path(0, 0, 99);
            yard.places(0, 1);
            yard.faces(0);
            yard.overloaded(0);
            yard.differs(0, 1);
            yard.count(0, 1);
        }
        long took = bytes() - before;
        CHECK.due("looks that take room: " + took, took < 100000, true);
    }

    private static void makingAnew() {
        long before = bytes();
        StackYard yard = full();
        for (int call = 0; call < CALLS; call += 2) {
            yard.keep(call / 2 % 12, 0);
            CHECK.due("all are changed", yard.fill(0, 1 + call / 2 % 2, 1), 1000);
        }
        long took = bytes() - before;
        CHECK.due("keep and fill take " + took, took < MOST_BYTES, true);
    }

    private static void movingBetweenTwo() {
        long before = bytes();
        StackYard yard = full();
        for (int call = 0; call < CALLS; call += 3) {
            yard.share(0, 1);
            yard.move(0, 1, 90909, true);
            yard.share(1, 0);
        }
        long took = bytes() - before;
        CHECK.due("share and move take " + took, took < MOST_BYTES, true);
    }

    private static void newRows() {
        long before = bytes();
        StackYard yard = new StackYard();
        yard.layer(0, 0);
        for (int call = 0; call < CALLS; call += 2) {
            yard.keep(call / 2 % 12, 0);
            yard.row(0, 0, call / 2 % 10, 10);
        }
        long took = bytes() - before;
        CHECK.due("keep and row take " + took, took < MOST_BYTES / 8, true);
    }

    private static void settling() {
        StackYard yard = Build.plain(10, 10, 10);
        for (int x = 0; x < 10; x++) {
            for (int w = 0; w < 10; w++) {
                yard.put(0, (x + w) % 2 == 0 ? 9 : 7, x, w, 1);
            }
        }
        long before = bytes();
        yard.keep(0, 0);
        // the puts were a hundred calls
        for (int call = 100; call < CALLS; call += 2) {
            yard.back(0, 0);
            CHECK.due("a hundred fall", yard.settle(0), 100);
        }
        long took = bytes() - before;
        CHECK.due("back and settle take " + took, took < MOST_BYTES, true);
    }
}
