import com.sun.management.ThreadMXBean;
import java.lang.management.ManagementFactory;

/** Calls make no objects, apart from the constructor, the first save and the growth of the text. */
public final class RoomTests {
    private static final int CALLS = 512;
    private static final long MOST_BYTES = 100_000;

    private RoomTests() { }

    public static void main(String[] args) {
        ThreadMXBean threads = (ThreadMXBean) ManagementFactory.getThreadMXBean();
        long thread = Thread.currentThread().getId();
        run();
        long before = threads.getThreadAllocatedBytes(thread);
        int time = run();
        long made = threads.getThreadAllocatedBytes(thread) - before;
        Check.holds("the run was long", time == 3000);
        Check.holds("a run takes " + made + " bytes", made < MOST_BYTES);
        Check.end("RoomTests");
    }

    private static int run() {
        QuorumLog x = new QuorumLog();
        x.start(31, 0);
        for (int i = 0; i < CALLS / 10 - 1; i++) {
            int n = i % 5;
            x.tick(60);
            x.save();
            x.tick(60);
            if (x.node(n, 1) == 2 && x.node(n, 5) - x.node(n, 7) < 24) {
                x.submit(n, Integer.MIN_VALUE + i);
            }
            x.pack(n);
            x.write(n);
            x.restore();
        }
        return x.statistic(0);
    }
}
