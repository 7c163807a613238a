import com.sun.management.ThreadMXBean;
import java.lang.management.ManagementFactory;

/** All calls of a run share one room: an object is small, and its calls make nothing. */
public final class RoomTest {
    private static final int RUNS = 20;
    private static final Due due = new Due();
    private static final ThreadMXBean THREADS = (ThreadMXBean) ManagementFactory.getThreadMXBean();
    private static final byte[] TEXT = {'~', '(', 'H', 'T', 'S', 'W', ')', '3', 'X'};

    public static void main(String[] args) {
        RootGates g = new RootGates();
        allCalls(g, 0);
        g = new RootGates();
        THREADS.getCurrentThreadAllocatedBytes();
        long before = THREADS.getCurrentThreadAllocatedBytes();
        for (int i = 0; i < RUNS; i++) {
            allCalls(g, i);
        }
        long made = THREADS.getCurrentThreadAllocatedBytes() - before;
        due.isTrue("calls made " + made + " bytes", made < 4096);
        before = THREADS.getCurrentThreadAllocatedBytes();
        new RootGates();
        made = THREADS.getCurrentThreadAllocatedBytes() - before;
        due.isTrue("an object takes " + made + " bytes", made < 65536);
        due.end();
    }

    private static void allCalls(RootGates g, int i) {
        g.one(0);
        for (int j = 0; j < 8; j++) {
            g.gate(0, j % 2);
            g.ahead(1, j % 7);
        }
        g.times(2, 0, 1);
        g.turn(2);
        g.part(2, 0, 0, 0);
        g.e(2);
        g.phase(2, 1);
        g.channel(2, 1, 1, 0);
        g.count(2);
        g.clifford(2);
        g.take(3, i);
        g.leads(i, 3);
        g.price(i % 7, i % 10);
        g.cheapest(i, -1);
        g.cheapest(i, 0);
        g.normal(0, 2);
        g.push(1, i % 7);
        g.pull(1);
        for (byte b : TEXT) {
            g.feed(b);
        }
        g.write(1);
        g.word(1, -2);
        g.value(3, 1);
        g.fits(1, 2, 3);
        g.parts(0, 1);
        g.shorter(1);
        g.undo();
        g.wipe();
        g.image();
        g.restore();
        g.told(3);
    }
}
