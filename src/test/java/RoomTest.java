import com.sun.management.ThreadMXBean;
import java.lang.management.ManagementFactory;

/** What the dearest calls make: all calls of a run live in one room of 600,000 objects and 7.3 million elements. */
final class RoomTest {
    /** An element takes four bytes or more. */
    private static final long ROOM = 4L * 7_300_000;
    private static final int CALLS = 512;

    public static void main(String[] args) {
        // once ahead, so that classes are loaded
        newObjects();
        oneObject();
        Check.same("as many new objects as there are calls", made(RoomTest::newObjects) < ROOM, true);
        Check.same("one object, used up", made(RoomTest::oneObject) < ROOM / 20, true);
        Check.end("RoomTest");
    }

    private static long made(Runnable run) {
        ThreadMXBean threads = (ThreadMXBean) ManagementFactory.getThreadMXBean();
        long ahead = threads.getCurrentThreadAllocatedBytes();
        run.run();
        return threads.getCurrentThreadAllocatedBytes() - ahead;
    }

    private static void newObjects() {
        int classes = 0;
        for (int call = 0; call < CALLS; call++) {
            classes += new MapFramer().count(0);
        }
        Check.same("classes", classes, 2 * CALLS);
    }

    /** As many methods, bytes and handlers as there can be, then runs that use up objects. */
    private static void oneObject() {
        MapFramer x = new MapFramer();
        int calls = 0;
        for (int k = 0; k < 8; k++) {
            x.method(0, 0);
            // 187 0, 87, 167 to the beginning; from 6 on what handlers go to
            x.feed(0xBB0057A7);
            x.feed(0xFFFD0000);
            for (int fed = 8; fed < 120; fed += 4) {
                x.feed(0x000000B1);
            }
            x.code(k, 120, 12, 12);
            for (int handler = 0; handler < 6; handler++) {
                x.handler(k, 0, 6, 6, 1);
            }
            x.verify(k);
            calls += 39;
        }
        for (; calls < CALLS; calls++) {
            try {
                x.run(calls % 8, 0, 0, 20000);
            } catch (UnsupportedOperationException e) {
                continue;
            }
        }
        Check.same("all its objects were used", x.end(3), 150);
    }
}
