import com.sun.management.ThreadMXBean;
import java.lang.management.ManagementFactory;

/**
 * All calls of a run live in one room, so rows are made with the object and used again: a call makes a small object
 * of its own where it adds something, and nothing elsewhere.
 */
public final class RoomTest {
    // A run of 512 calls that were all constructors would stay below seven million elements of four bytes.
    private static final long MOST_OF_AN_OBJECT = 7_000_000L * 4 / 512;
    private static final long MOST_OF_ADDING = 200;
    // What the machine itself may want now and then, far below one array or object a call.
    private static final long SLACK = 4000;
    private static final ThreadMXBean THREADS = (ThreadMXBean) ManagementFactory.getThreadMXBean();
    private static final Check CHECK = new Check("RoomTest");
    private static int sum;

    public static void main(String[] args) {
        if (THREADS.isThreadAllocatedMemorySupported()) {
            THREADS.setThreadAllocatedMemoryEnabled(true);
            // The first round makes the machine load its classes and is not looked at.
            for (int round = 0; round < 2; round++) {
                objects(round > 0);
                adding(round > 0);
                going(round > 0);
            }
        }
        CHECK.end();
    }

    private static long taken() {
        return THREADS.getThreadAllocatedBytes(Thread.currentThread().getId());
    }

    private static void hold(boolean counts, String what, long before, long most) {
        long bytes = taken() - before;
        if (counts) {
            CHECK.yes(what + " took " + bytes + " bytes, " + most + " at most", bytes <= most);
        }
    }

    private static void objects(boolean counts) {
        long before = taken();
        for (int i = 0; i < 100; i++) {
            sum += new ShoreDay().count(4);
        }
        hold(counts, "100 new objects", before, 100 * MOST_OF_AN_OBJECT);
    }

    private static ShoreDay fullDay() {
        ShoreDay day = new ShoreDay();
        for (int i = 0; i < 9; i++) {
            day.ship(1 + i, 719, i);
            day.tender(i % 4, 200);
            day.tour(10 + i, 20, 40, i % 8);
            day.guide(255 >> i);
        }
        for (int i = 0; i < 60; i++) {
            day.group(i % 4, 1 + i, 100 - i, i, i % 9 - 1, 1 + i);
        }
        return day;
    }

    private static void adding(boolean counts) {
        long before = taken();
        ShoreDay day = fullDay();
        hold(counts, "a full day", before, MOST_OF_AN_OBJECT + 78 * MOST_OF_ADDING + SLACK);
        before = taken();
        for (int i = 0; i < 512; i++) {
            sum += day.ship(1, 719, 0) + day.tender(0, 1) + day.tour(9, 1, 1, 0) + day.guide(1);
            sum += day.group(0, 1, 0, 0, -1, 1);
        }
        hold(counts, "adding where all is full", before, SLACK);
    }

    private static void going(boolean counts) {
        ShoreDay day = fullDay();
        long before = taken();
        for (int i = 0; i < 512; i++) {
            day.feed(0x6665652033207768L, 0x656e206c616e6465L, 0x64203c2039303b20L);
            day.feed(0x6665652033207768L, 0x656e202828312929L, i % 2 == 0 ? 0x3b20202020202020L : 0L);
            sum += day.text();
            sum += day.plan() + day.planned(i % 8) + day.minutes(2) + day.look(i % 60, i % 6);
            sum += day.lies(i % 6, i % 3) + day.guests(i % 4, i % 6) + day.rides(i % 8, i % 3) + day.count(i % 10);
            sum += (day.holds(1 + i) ? 1 : 0) + (day.shut(1 + i, 1 + i) ? 1 : 0);
        }
        hold(counts, "512 of each other call", before, SLACK);
    }
}
