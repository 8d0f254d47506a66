import com.sun.management.ThreadMXBean;
import java.lang.management.ManagementFactory;

/** The room: calls make no objects or arrays; the rows of the search are made with the object. */
public final class RoomTest {
    private static final Check CHECK = new Check();
    private static final long ROOM_OF_ALL_CALLS = 100_000;

    public static void main(String[] args) {
        ThreadMXBean threads = (ThreadMXBean) ManagementFactory.getThreadMXBean();
        useAnObjectUp();
        long before = threads.getCurrentThreadAllocatedBytes();
        RampJam jam = busyJam();
        long made = threads.getCurrentThreadAllocatedBytes();
        callOften(jam);
        long called = threads.getCurrentThreadAllocatedBytes();
        CHECK.due("room of the object kept small: " + (made - before), made - before < ROOM_OF_ALL_CALLS, true);
        CHECK.due("room of the calls kept small: " + (called - made), called - made < ROOM_OF_ALL_CALLS, true);
        CHECK.end();
    }

    private static void useAnObjectUp() {
        callOften(busyJam());
    }

    private static RampJam busyJam() {
        RampJam jam = new RampJam();
        jam.park(2, true, 2, 0);
        jam.park(2, true, 0, 0);
        jam.park(2, true, 1, 0);
        jam.park(2, true, 3, 0);
        jam.park(3, true, 4, 0);
        jam.park(4, true, 5, 0);
        return jam;
    }

    private static void callOften(RampJam jam) {
        for (int i = 0; i < 84; i++) {
            jam.driveOn(1, i % 2 == 0);
            jam.positions();
            jam.driveOn(0, false);
            jam.solve();
            jam.canReach(3, 5);
            jam.hint();
        }
    }
}
