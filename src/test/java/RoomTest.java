import com.sun.management.ThreadMXBean;
import java.lang.management.ManagementFactory;

/** What a run makes is counted: an object is made with all that it needs, its calls make nothing more. */
public final class RoomTest {
    private static final Due due = new Due();
    private static final ThreadMXBean THREADS = (ThreadMXBean) ManagementFactory.getThreadMXBean();

    public static void main(String[] args) {
        new RoomTest().run();
        long before = bytes();
        long after = bytes();
        long asking = after - before;
        RoomTest test = new RoomTest();
        before = bytes();
        test.run();
        after = bytes();
        due.is("bytes made by 512 calls, some thousands at most: " + (after - before - asking), after - before - asking < 4000 ? 1 : 0, 1);
        before = bytes();
        HomeCalls x = new HomeCalls();
        after = bytes();
        due.is("bytes of a new object: " + (after - before - asking), after - before - asking < 20000 ? 1 : 0, 1);
        due.is("count(0)", x.count(0), 0);
        due.end();
    }

    private static long bytes() {
        return THREADS.getThreadAllocatedBytes(Thread.currentThread().getId());
    }

    private final HomeCalls x = new HomeCalls();
    private int sum;

    private void run() {
        for (int i = 0; i < 7; i++) {
            x.thing(i, 63);
            x.child(10 * i + i, i);
        }
        x.feed(0x35_25_6d_2b_62_2b_64L, 7);
        x.text(0);
        x.feed(0x34_3c_6eL, 3);
        x.text(1);
        x.sheet(0, 8, 40);
        for (int i = 0; i < 24; i++) {
            int t = i % 10;
            sum += x.call(i % 6, t) + x.loose(40) + x.hadBy(0, t) + x.worst(t, 1) + x.best(t, 1) + x.stand(2, t, 0) + x.steps(1)
                + x.take(3, 2, t) + x.lay(1, t, 0) + x.called(1, t) + x.parts(t, 0) + x.never(t) + x.series(0, t, 1) + x.odds(1, t, 0)
                + x.voice(4, 3, i) + x.image() + x.restore() + x.sheet(1, 8, 40) + x.move(0, 0, 1, 0, 40) + x.places(0) + x.thing(99, 0);
        }
    }
}
