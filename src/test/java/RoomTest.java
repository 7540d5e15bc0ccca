import com.sun.management.ThreadMXBean;
import java.lang.management.ManagementFactory;

/** All calls of a run live in one room: rows are made once for an object and its tongues, not call by call. */
public final class RoomTest {
    /** A long for each of the elements that a run may have, shared by the 512 calls of an object. */
    private static final long MOST_BYTES_A_CALL = 7_300_000L * 8 / 512;
    private static final long MOST_BYTES_ALL_CALLS = 50_000;
    private static final String TEXT = "word0nil;word1one;word2two;for 3 to 999 by 3:#q tri[and #r];";

    private static final Checks CHECKS = new Checks();
    private static final ThreadMXBean ROOM = (ThreadMXBean) ManagementFactory.getThreadMXBean();

    public static void main(String[] args) {
        run(false);
        run(true);
        CHECKS.end();
    }

    private static long taken() {
        return ROOM.getThreadAllocatedBytes(Thread.currentThread().getId());
    }

    private static void run(boolean counted) {
        long before = taken();
        NumberWords x = new NumberWords();
        long made = taken();
        for (int tongue = 0; tongue < 3; tongue++) {
            Checks.readText(x, tongue, TEXT);
        }
        long told = taken();
        for (int i = 0; i < 20; i++) {
            callEach(x, i);
        }
        long called = taken();
        if (counted) {
            CHECKS.due("a new object is small", made - before <= MOST_BYTES_A_CALL ? 1 : 0, 1);
            CHECKS.due("a tongue is small", told - made <= 3 * MOST_BYTES_A_CALL ? 1 : 0, 1);
            CHECKS.due("calls take no room", called - told <= MOST_BYTES_ALL_CALLS ? 1 : 0, 1);
        }
    }

    private static void callEach(NumberWords x, int i) {
        Checks.readText(x, i % 3, TEXT);
        x.write('a' + i);
        x.about(0, 4);
        x.name(0, 7, 3);
        x.uses(1, i, 0, 999);
        x.first(1, i);
        x.order(0, i);
        x.place(1, i);
        x.twins(2, 2);
        x.find(0, true, 0);
        x.nearest(1, 1);
        x.led(0, 1, 0);
        x.chain(2, i, 0);
        x.honest(2, i);
        x.far(2, 100, 200);
        x.mixed(0, 9, 100, 160);
        x.square(0, 500, i, 2);
        x.squares(0, 400 + i);
    }
}
