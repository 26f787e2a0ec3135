import com.sun.management.ThreadMXBean;
import java.lang.management.ManagementFactory;

/** All calls of a run live in one room: none of them may make objects, and a new object is small. */
public final class RoomTest {
    // 6,000 ints and some objects; hundreds of such fit into the room.
    private static final long MOST_BYTES_OF_ONE = 30_000;

    // The machine's own doings may count too; one object a call would be far above this.
    private static final long MOST_BYTES_OF_CALLS = 512;

    private static final ThreadMXBean BEAN = (ThreadMXBean) ManagementFactory.getThreadMXBean();

    private static long made() {
        return BEAN.getThreadAllocatedBytes(Thread.currentThread().getId());
    }

    public static void main(String[] args) {
        allCalls(new CutTrees());
        made();
        long before = made();
        CutTrees x = new CutTrees();
        long object = made() - before;
        before = made();
        allCalls(x);
        long calls = made() - before;
        System.out.println("a new object: " + object + " bytes; its calls: " + calls);
        Due.is("a new object is small", object <= MOST_BYTES_OF_ONE ? 1 : 0, 1);
        Due.is("calls make nothing", calls <= MOST_BYTES_OF_CALLS ? 1 : 0, 1);
        Due.end();
    }

    private static long allCalls(CutTrees x) {
        long all = 0;
        for (int i = -12; i < 12; i++) {
            all += x.piece(-15, -30 * i - i * i, 15, 30 * i - i * i);
            all += x.least() + x.sum();
        }
        for (int rule = 0; rule < 4; rule++) {
            all += x.build(rule, rule) + x.order(3, 4) + x.where(3, 4);
            all += x.sees(0, 0, 5, 5) + x.ray(0, -500, 0, 1);
            for (int what = 0; what < 5; what++) {
                all += x.look(0, what) + x.knot(0, what) + x.part(0, what) + x.count(what);
                all += x.told(what) + x.met(what, 1);
            }
        }
        return all + x.drop();
    }
}
