import com.sun.management.ThreadMXBean;
import java.lang.management.ManagementFactory;

/** A whole run fits into its room many times over: calls use again what the object made once. */
public final class RoomTest {
    private static final Due DUE = new Due("RoomTest");
    private static final ThreadMXBean BEAN = (ThreadMXBean) ManagementFactory.getThreadMXBean();

    public static void main(String[] args) {
        // The machine loads classes for the first one.
        work(new BalanceCoder());
        long before = BEAN.getCurrentThreadAllocatedBytes();
        BalanceCoder x = new BalanceCoder();
        long made = BEAN.getCurrentThreadAllocatedBytes() - before;
        DUE.holds("a new object has few elements: " + made + " bytes", made < 4 * 16000);
        fillUp(x);
        work(x);
        before = BEAN.getCurrentThreadAllocatedBytes();
        for (int i = 0; i < 20; i++) {
            work(x);
        }
        long more = BEAN.getCurrentThreadAllocatedBytes() - before;
        DUE.holds("calls make nothing more: " + more + " bytes", more < 20000);
        DUE.end();
    }

    private static void fillUp(BalanceCoder x) {
        for (int i = 0; i < 50; i++) {
            x.put(0, 0x6162636465666768L + i * 0x0101010101010101L, 8);
        }
        for (int i = 0; i < 10; i++) {
            x.table(i % 5, 8 + i / 2);
        }
    }

    private static void work(BalanceCoder x) {
        x.keep();
        for (int table = 0; table < 10; table++) {
            x.learn(table, 0);
            x.cost(table, 0, 0);
            x.shares(table, 0, 97, true);
            x.ahead(table, 0, 4);
            x.pack(table, 0, 3);
            x.step(5, 1);
            x.mark(7);
            x.skip(20);
            x.take(1);
            x.tell(5);
            x.check();
        }
        x.search(0);
        x.alter(3, 9);
        x.more(7, 8);
        x.take(2);
        x.back();
    }
}
