import com.sun.management.ThreadMXBean;
import java.lang.management.ManagementFactory;

/** All that an object needs is made with it: its calls make nothing more. */
public final class RoomTest {
    private static final long MOST_BYTES_OF_AN_OBJECT = 32_000L;
    // asking for the bytes may itself make something small
    private static final long MOST_BYTES_OF_ALL_CALLS = 2_000L;
    private static final ThreadMXBean THREADS =
        (ThreadMXBean) ManagementFactory.getThreadMXBean();

    public static void main(String[] args) {
        Checks checks = new Checks("RoomTest");
        allCalls(new StraightPages());
        made();
        long before = made();
        StraightPages x = new StraightPages();
        long object = made() - before;
        checks.hold("an object takes " + object + " bytes", object <= MOST_BYTES_OF_AN_OBJECT);
        before = made();
        allCalls(x);
        long calls = made() - before;
        checks.hold("its calls take " + calls + " bytes", calls <= MOST_BYTES_OF_ALL_CALLS);
        checks.end();
    }

    private static long made() {
        return THREADS.getThreadAllocatedBytes(Thread.currentThread().getId());
    }

    private static void allCalls(StraightPages x) {
        x.page(40, 30);
        x.lay(0, 0, 3, 30, 0x1234_5678_9ABCL, 0x1111_0101_0101L);
        for (int i = 0; i < 15; i++) {
            x.copy(0);
            x.set(0, i, i, true);
            x.line(0, i, 77L * i);
            x.at(0, i, i);
            x.row(0, i);
            x.unlike(0, 1);
            x.across(0, 3);
            x.upright(0, 3);
            x.turn(0, 1, 1);
            x.sharp(0, i - 7);
            x.angle(0);
            x.bend(0);
            x.foot(0, 1);
            x.specks(0, i + 1, 2);
            x.take(0, i + 1, 2);
            x.shadow(0, 60);
            x.cut(0, 1);
            x.spans(0, 0, 1);
            x.part(0, 2, 5, 64);
            for (int what = 0; what < 7; what++) {
                x.of(0, what);
                x.count(what);
                x.box(0, what);
            }
            if (x.count(2) > 0) {
                x.listed(0, 1);
            }
            if (x.count(3) > 0) {
                x.told(0);
            }
            for (int k = 0; k < 6; k++) {
                x.back();
            }
        }
    }
}
