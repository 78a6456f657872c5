import com.sun.management.ThreadMXBean;
import java.lang.management.ManagementFactory;

/** What a run makes: an object is small, and no call makes anything. */
public final class RoomTest {
    private static final int OBJECTS = 100;
    private static final long MOST_FOR_ONE = 64 * 1024;
    private static final long MOST_FOR_CALLS = 64 * 1024;

    private static final ThreadMXBean THREADS =
        (ThreadMXBean) ManagementFactory.getThreadMXBean();
    private static long answers = 0;

    private static long made() {
        return THREADS.getThreadAllocatedBytes(Thread.currentThread().getId());
    }

    private static void build(DrinkingRoofs x) {
        for (int h = 0; h < 4; h++) {
            x.house(10 + h, 40, 1, 5);
            x.tell(h, 0, 3);
            x.tell(h, 3, 100);
            x.tell(h, 4, 20);
        }
        for (int h = 0; h < 3; h++) {
            x.next(h, h + 1);
        }
        for (int s = 0; s < 10; s++) {
            x.storm(12);
            for (int t = 0; t < 12; t++) {
                x.fall(s, t, (s * t) % 17, t % 4 == 0);
            }
        }
    }

    private static void call(DrinkingRoofs x) {
        for (int i = 0; i < 30; i++) {
            answers += x.feed(0x70617920, 0x77657420, 0x7768656e, 0x20313d31, 0x3b202020);
            answers += x.text() + x.comes(i % 10) + x.of(1, 10) + x.hour(1, 1, 1);
            answers += x.blame(3, 1, 2, 0) + x.cleanings(1, 2, 3, 4, 0) + x.gutters(3, 0);
            answers += x.stains(15, 3) + x.drain(4) + x.added(2, 50, 30, 5) + x.look(8);
            answers += x.image(i % 2 == 0) ? 1 : 0;
        }
    }

    public static void main(String[] args) {
        call(new DrinkingRoofs());
        DrinkingRoofs[] all = new DrinkingRoofs[OBJECTS];
        long before = made();
        for (int i = 0; i < OBJECTS; i++) {
            all[i] = new DrinkingRoofs();
        }
        long one = (made() - before) / OBJECTS;
        build(all[0]);
        before = made();
        call(all[0]);
        long calls = made() - before;
        System.out.println("bytes for an object: " + one + ", for its calls: " + calls);
        if (one > MOST_FOR_ONE || calls > MOST_FOR_CALLS || answers == 0) {
            System.out.println("that is too much");
            System.exit(1);
        }
    }
}
