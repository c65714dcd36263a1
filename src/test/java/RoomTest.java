import java.lang.management.ManagementFactory;

/** All calls of a run live in one room: after its constructor an object makes nothing. */
public final class RoomTest extends Bench {
    private static final int CALLS = 500;
    private static final long NOISE = 64 * 1024;
    private static final long CONSTRUCTOR_MOST = 16 * 1024;

    public static void main(String[] args) {
        begin("RoomTest");
        com.sun.management.ThreadMXBean meter = (com.sun.management.ThreadMXBean) ManagementFactory.getThreadMXBean();
        heavyCalls(meter);
        long constructing = heavyCalls(meter);
        due.holds("an object takes " + constructing + " bytes", constructing < CONSTRUCTOR_MOST);
        due.end();
    }

    private static long heavyCalls(com.sun.management.ThreadMXBean meter) {
        long before = meter.getCurrentThreadAllocatedBytes();
        fresh("room");
        long made = meter.getCurrentThreadAllocatedBytes();
        house("a3789789 k059 c168 q277 w786 q395 u485");
        long ready = meter.getCurrentThreadAllocatedBytes();
        int sum = 0;
        for (int k = 0; k < CALLS / 10; k++) {
            sum += x.best(k % 6) + x.seats() + x.ways(3) + x.least() + x.odds(2) + x.mid() + x.apart()
                    + x.duel(4) + x.fault(0) + x.keep(k % 3);
            sum += x.lots(k + 1) + x.on(k % 3) + x.undo(0);
        }
        long called = meter.getCurrentThreadAllocatedBytes();
        due.holds("calls are answered: " + sum, sum > 0);
        due.holds(CALLS + " calls took " + (called - ready) + " bytes", called - ready < NOISE);
        return made - before;
    }
}
