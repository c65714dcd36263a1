import java.lang.management.ManagementFactory;

/** All calls of a run live in one room: after its constructor an object makes nothing. */
public final class RoomTest extends Bench {
    private static final int CALLS_OF_ROUND = 13;
    private static final long NOISE = 64 * 1024;
    private static final long CONSTRUCTOR_MOST = 16 * 1024;

    public static void main(String[] args) {
        begin("RoomTest");
        com.sun.management.ThreadMXBean meter = (com.sun.management.ThreadMXBean) ManagementFactory.getThreadMXBean();
        heavyCalls(meter);
        long constructing = heavyCalls(meter);
        due.holds("an object takes " + constructing + " bytes", constructing < CONSTRUCTOR_MOST);
        end();
    }

    private static long heavyCalls(com.sun.management.ThreadMXBean meter) {
        fresh("room");
        long before = meter.getCurrentThreadAllocatedBytes();
        x = new Counted();
        long made = meter.getCurrentThreadAllocatedBytes();
        house("a3789789 k059 c168 q277 w786 q395 u485");
        int rounds = x.callsLeft() / CALLS_OF_ROUND;
        long ready = meter.getCurrentThreadAllocatedBytes();
        int sum = 0;
        for (int k = 0; k < rounds; k++) {
            sum += x.best(k % 6) + x.seats() + x.ways(3) + x.least() + x.odds(2) + x.mid() + x.apart()
                    + x.duel(4) + x.fault(0) + x.keep(k % 3);
            sum += x.lots(k + 1) + x.on(k % 3) + x.undo(0);
        }
        long called = meter.getCurrentThreadAllocatedBytes();
        due.holds("calls are answered: " + sum, sum > 0);
        due.holds(rounds + " rounds of calls took " + (called - ready) + " bytes", called - ready < NOISE);
        return made - before;
    }
}
