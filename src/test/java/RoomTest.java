import com.sun.management.ThreadMXBean;
import java.lang.management.ManagementFactory;

/** All calls of a run share one room: an object is small, and no call makes another. */
public final class RoomTest {
    private static final Check CHECK = new Check("RoomTest");
    private static final ThreadMXBean THREADS = (ThreadMXBean) ManagementFactory.getThreadMXBean();

    public static void main(String[] args) {
        // the first object loads classes, which is not counted
        NumberHeaps first = new NumberHeaps();
        callAll(first);
        long before = made();
        NumberHeaps x = new NumberHeaps();
        long object = made() - before;
        CHECK.due("bytes of an object: " + object, object < 40000, true);
        Check.text(x, "number 9,1,8,2,7,3,6,4,5,5");
        callAll(x);
        before = made();
        for (int turn = 0; turn < 5; turn++) {
            callAll(x);
        }
        long calls = made() - before;
        CHECK.due("bytes made by all calls, five times: " + calls, calls < 2000, true);
        CHECK.end();
    }

    private static long made() {
        return THREADS.getThreadAllocatedBytes(Thread.currentThread().getId());
    }

    private static void callAll(NumberHeaps x) {
        x.feed(0, 0, 0, 0, 0);
        x.text(1);
        x.about(2);
        x.number(0, 1);
        x.sized(0);
        x.become(0, 10);
        for (int k = 2; k <= 4; k++) {
            x.heaps(k);
            x.greedy(k, 0);
            x.multi(k);
            x.bound(k);
            x.least(k, 0);
            x.rows(k);
            x.climb(k, 0);
            x.write();
        }
        x.difference();
        x.search(0);
        x.find(0, 0);
        x.sums();
        x.ways(10);
        x.chosen(10);
        x.nearest(10);
        x.keepIn(1, 1);
        x.apart(1, 2);
        x.sort();
        x.undo();
        x.image(0);
        x.back(0);
        x.drop(9);
        x.add(5);
    }
}
