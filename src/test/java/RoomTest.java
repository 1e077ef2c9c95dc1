import com.sun.management.ThreadMXBean;
import java.lang.management.ManagementFactory;

/** All calls of one run live in one room: what an object needs it makes in its constructor, and no call makes more. */
public final class RoomTest {
    private static final int CALLS = 512;
    private static final long MOST_BYTES_OF_A_NEW_ONE = 16 * 1024;
    private static final long MOST_BYTES_OF_ALL_CALLS = 1024;

    private final Checks c = new Checks();
    private final ThreadMXBean threads = (ThreadMXBean) ManagementFactory.getThreadMXBean();

    public static void main(String[] args) {
        RoomTest t = new RoomTest();
        // The first round loads the classes, which takes room that is none of the program's.
        t.measure(false);
        t.measure(true);
        t.c.end();
    }

    private long bytes() {
        return threads.getThreadAllocatedBytes(Thread.currentThread().getId());
    }

    private void measure(boolean isChecked) {
        long before = bytes();
        SownSeeds x = new SownSeeds();
        long made = bytes();
        Checks.write(x, "board 5;deep 1;mean 3;rich 6;seeds 0 30");
        x.board();
        for (int n = 0; n < CALLS; n++) {
            call(x, n);
        }
        long after = bytes();
        if (isChecked) {
            c.part("room");
            c.holds("a new object takes " + (made - before) + " bytes", made - before <= MOST_BYTES_OF_A_NEW_ONE);
            c.holds("its calls take " + (after - made) + " bytes", after - made <= MOST_BYTES_OF_ALL_CALLS);
        }
    }

    private static void call(SownSeeds x, int n) {
        switch (n % 16) {
            case 0 -> x.best(5, -1);
            case 1 -> x.best(5, 4);
            case 2 -> x.gift(4);
            case 3 -> x.luck(3, 0);
            case 4 -> x.rash(40);
            case 5 -> x.over();
            case 6 -> x.move(n / 16 % 10);
            case 7 -> x.drop(n / 16 % 10, 3);
            case 8 -> x.swap(n / 16 % 10, 1);
            case 9 -> x.box(n / 16 % 5, 4);
            case 10 -> x.put(n / 16 % 5, 2, n / 32 % 5);
            case 11 -> x.alike(0, 1);
            case 12 -> x.seen(3, 3, 1, 1);
            case 13 -> x.ask();
            case 14 -> x.write('a' + n % 26);
            default -> x.fault();
        }
    }
}
