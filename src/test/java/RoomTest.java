import com.sun.management.ThreadMXBean;
import java.lang.management.ManagementFactory;
import java.util.function.IntConsumer;

/** All calls of one run live in one room: what an object and its calls make is kept small. */
final class RoomTest {
    private static final ThreadMXBean THREADS = (ThreadMXBean) ManagementFactory.getThreadMXBean();
    // An item of a row takes one byte at least, an object sixteen: so a run's bytes bound both.
    private static final long OBJECT = 40_000;
    private static final long RUN = 400_000;
    private static final long NOTHING = 1_000;

    private RoomTest() { }

    static void run() {
        SkipCity[] kept = new SkipCity[1];
        within("a new object", OBJECT, 1, i -> kept[0] = new SkipCity());
        within("a full city", RUN, 1, i -> kept[0] = full());
        SkipCity x = kept[0];
        within("digest", NOTHING, 90, i -> x.digest());
        within("type and wipe", NOTHING, 200, i -> { x.type(4, 's'); x.wipe(4); });
        within("plan", NOTHING, 50, i -> { x.reach(300 + i); x.plan(3); x.tour(3, 0, 5); });
        within("bills", NOTHING, 300, i -> { x.bill(i % 60, 0); x.guess(i % 60); x.lost(1, 0, 0); });
        within("sheets", NOTHING, 300, i -> { x.sheet(i % 4, 2, 90); x.write(i % 60, i % 4); x.sorts(i % 60, 0, 1); });
    }

    private static void within(String what, long bytes, int times, IntConsumer call) {
        call.accept(0);
        long before = THREADS.getThreadAllocatedBytes(Thread.currentThread().getId());
        for (int i = 0; i < times; i++) {
            call.accept(i);
        }
        long made = THREADS.getThreadAllocatedBytes(Thread.currentThread().getId()) - before;
        Checks.due("bytes made by " + what, Math.max(made, bytes), bytes);
    }

    private static SkipCity full() {
        SkipCity x = new SkipCity();
        for (int i = 0; i < 24; i++) x.kerb(i % 4, i, i, 60);
        for (int i = 0; i < 40; i++) x.skip(6);
        for (int i = 0; i < 6; i++) x.tip(i, i, 63, 0, 23, 9);
        for (int i = 0; i < 60; i++) x.permit(i % 24, 0, 13);
        for (int i = 0; i < 60; i++) x.let(i % 40, i % 24, i % 6, 9);
        x.sheet(0, 0, 6);
        x.put(0, 0, 2, 9);
        for (int i = 0; i < 60; i++) {
            x.fetch(i, 1, 50);
            x.let(i % 40, i % 24, i % 6, 9);
            x.weigh(i, 0, 500, 0);
            x.draw(i, 20, 0);
        }
        for (int i = 0; i < 6; i++) x.task(i, 4, 0);
        return x;
    }
}
