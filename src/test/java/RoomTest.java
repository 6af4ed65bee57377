import com.sun.management.ThreadMXBean;
import java.lang.management.ManagementFactory;

/** All calls of a run live in one room: rows are made once and used again. */
public final class RoomTest {
    private static final ThreadMXBean THREADS = (ThreadMXBean) ManagementFactory.getThreadMXBean();
    private static long sink = 0;

    public static void main(String[] args) {
        // The first measure makes objects of its own.
        measure();
        aNewBench();
        aFullBench();
        Due.end("RoomTest");
    }

    private static long measure() {
        return THREADS.getCurrentThreadAllocatedBytes();
    }

    private static CometBench full() {
        CometBench x = new CometBench();
        x.sight(0, 0, 1, 0, 1000);
        x.sight(0, 10, 0, 1, 1000);
        x.sight(1, 5, 1, 1, 1000);
        x.grid(10000, 1000, 10);
        x.base(0, 1);
        return x;
    }

    private static void askAll(CometBench x) {
        sink += x.keep();
        sink += x.patch(5) + x.side(5, true) + x.tells(-300, 300);
        sink += x.at(99, 300, 3) + x.way(99, 3) + x.fits(99, 2) + x.fitting(2) + x.without(2);
        sink += x.period(99) + x.span(true) + x.near(-1, -300, 300) + x.nearest() + x.all(3);
        sink += x.miss(2, 1000);
        x.unsee();
        sink += x.sight(1, 5, 1, 1, 1000);
    }

    private static void aNewBench() {
        new CometBench();
        long before = measure();
        CometBench x = new CometBench();
        long bytes = measure() - before;
        sink += x.all(0);
        System.out.println("a new bench: " + bytes + " bytes");
        Due.same("a new bench is small", bytes < 10000, true);
    }

    private static void aFullBench() {
        askAll(full());
        CometBench x = full();
        long before = measure();
        askAll(x);
        long first = measure() - before;
        Due.same("all are kept", x.all(3), 100);
        before = measure();
        for (int i = 0; i < 20; i++) {
            askAll(x);
        }
        long again = measure() - before;
        System.out.println("a full bench: " + first + " bytes at first, " + again + " later");
        // A row of 602 longs a way: 73 such benches, made by 7 calls each, stay in the room.
        Due.same("the rows", first < 100 * (602 * 8 + 200), true);
        Due.same("no rows made again", again < 2000, true);
    }
}
