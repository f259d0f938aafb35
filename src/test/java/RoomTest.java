import com.sun.management.ThreadMXBean;
import java.lang.management.ManagementFactory;

/**
 * What an object and 512 of its dearest calls take of the one room in which all calls of a run live, if nothing is
 * ever given back. Dearest are those that try every place of long routes, and find none.
 */
public final class RoomTest {
    private static final int VEHICLES = 4;
    private static final int MENDS = 400;
    /** LANGUAGE.md and the task tell of millions of fields, of some 8 bytes each: a tenth of a million is little. */
    private static final long LITTLE = 8L * 100_000;

    private RoomTest() {
    }

    public static void main(String[] args) {
        Checks.runAll(RoomTest.class);
    }

    private static void asksAndMendsThatFindNoPlace() {
        long before = taken();
        DoorstepRides x = heldUp();
        for (int i = 0; i < 28; i++) {
            x.ask(0, 0, 1, 300);
        }
        for (int i = 0; i < MENDS; i++) {
            x.mend(i % VEHICLES);
        }
        long bytes = taken() - before;
        Checks.due("DENIED, each one tried", x.count(DoorstepRides.DENIED), 28);
        Checks.due("stops that mend has tried", x.vehicleOf(0, 2), 14);
        Checks.due(bytes + " bytes are little", bytes < LITTLE, true);
    }

    /** Four vehicles with 14 stops each, so that there is a place for one more, and all of them hours too late. */
    private static DoorstepRides heldUp() {
        DoorstepRides x = new DoorstepRides();
        x.rider(DoorstepRides.WALKS, 70, 5, false);
        for (int i = 0; i < VEHICLES; i++) {
            x.vehicle(0, 8, 3, 400);
        }
        for (int i = 0; i < 8 * VEHICLES; i++) {
            x.ask(0, 0, 1, 300);
        }
        for (int i = 0; i < VEHICLES; i++) {
            x.cancel(8 * i);
            for (int hours = 0; hours < 6; hours++) {
                x.traffic(i, 60);
            }
        }
        return x;
    }

    private static long taken() {
        ThreadMXBean threads = (ThreadMXBean) ManagementFactory.getThreadMXBean();
        return threads.getThreadAllocatedBytes(Thread.currentThread().getId());
    }
}
