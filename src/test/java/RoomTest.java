import com.sun.management.ThreadMXBean;
import java.lang.management.ManagementFactory;

/** What whole runs of dear calls make, in bytes: far below the room that all calls of one run share. */
public final class RoomTest {
    private static final String FULL_ROAD = "r7m11m51m75m33m62w30w16p30b41w12";
    private static final long FOUR_BYTES = 4, ELEMENTS = 1_000_000;
    private static final int CALLS = 512;
    private static final ThreadMXBean BEAN = (ThreadMXBean) ManagementFactory.getThreadMXBean();

    private static int wrong = 0;

    private static long made() {
        return BEAN.getThreadAllocatedBytes(Thread.currentThread().getId());
    }

    private static void hold(String what, long before) {
        long elements = (made() - before) / FOUR_BYTES;
        System.out.println(what + ": " + elements + " elements");
        if (elements > ELEMENTS) {
            wrong++;
            System.out.println(what + " makes too much");
        }
    }

    private static MilestonesOn fresh() {
        MilestonesOn x = new MilestonesOn();
        x.text(0, FULL_ROAD.length());
        for (int i = 0; i < FULL_ROAD.length(); i++) {
            x.put(0, i, FULL_ROAD.charAt(i));
        }
        x.road(0);
        return x;
    }

    public static void main(String[] args) {
        fresh().best();
        long before = made();
        MilestonesOn x = fresh();
        for (int i = 0; i < CALLS / 8; i++) {
            x.walk(i % 5);
            x.best();
            x.fewest();
            x.way(i % 6);
            x.all();
            x.earn(4);
            x.look(3);
            x.where(0);
            x.who(0);
        }
        hold("searches", before);
        before = made();
        x = fresh();
        for (int i = 0; i < CALLS / 2; i++) {
            x.road(0);
            x.fault(0);
        }
        hold("roads", before);
        before = made();
        x = fresh();
        x.row(1, 60);
        for (int i = 0; i < CALLS / 2; i++) {
            x.walks(1);
            x.undo(0);
        }
        hold("walks", before);
        before = made();
        for (int i = 0; i < CALLS; i++) {
            x = new MilestonesOn();
        }
        hold("new objects", before);
        System.out.println(wrong == 0 ? "room enough" : "not room enough");
        if (wrong != 0) System.exit(1);
    }
}
