import java.lang.management.ManagementFactory;

/** What one object makes in its 512 calls is small, however dear they are. */
public final class RoomTest {
    private static final Checks CHECKS = new Checks("RoomTest");
    private static final int MOST_CALLS = 512;
    /** About a hundredth of the room for all calls of one run, taken as 8 bytes an element. */
    private static final long MOST_BYTES = 500_000L;

    public static void main(String[] args) {
        // Whatever the machine makes when the class is used for the first time is not counted.
        use(1L);
        long bytes = use(2L);
        CHECKS.due("bytes made are few (" + bytes + ")", true, () -> bytes <= MOST_BYTES);
        CHECKS.end();
    }

    private static long use(long seed) {
        com.sun.management.ThreadMXBean threads =
            (com.sun.management.ThreadMXBean) ManagementFactory.getThreadMXBean();
        long before = threads.getCurrentThreadAllocatedBytes();
        SliceBlocks x = new SliceBlocks(seed);
        int calls = 0;
        int all = x.block(1, 1000, true);
        for (int i = 1; i < 16; i++) {
            int block = x.block(1 + i, 1000 - i, true);
            all = x.slice(all, block, i % 2 == 0);
            calls += 2;
        }
        for (int i = 0; i < 4; i++) {
            x.net(0, 1);
            x.net(1, 0);
            calls += 2;
        }
        while (calls < MOST_CALLS) {
            x.pair(2000);
            x.pin(0, calls % 4, 1);
            x.wire();
            x.overlap();
            calls += 4;
        }
        return threads.getCurrentThreadAllocatedBytes() - before;
    }
}
