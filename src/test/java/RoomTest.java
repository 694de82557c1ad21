import com.sun.management.ThreadMXBean;
import java.lang.management.ManagementFactory;

/** All calls of a run live in one room: the dearest calls make no objects, and end soon. */
public final class RoomTest {
    private static final ThreadMXBean BEAN = (ThreadMXBean) ManagementFactory.getThreadMXBean();

    public static void main(String[] args) {
        HundredMenAft x = full();
        long before = 0;
        // The first rounds pay for the machine's own warming up.
        for (int round = 0; round < 60; round++) {
            if (round == 10) {
                before = BEAN.getCurrentThreadAllocatedBytes();
            }
            dearCalls(x);
        }
        long bytes = BEAN.getCurrentThreadAllocatedBytes() - before;
        Check.due("bytes made by 50 rounds of the dearest calls: " + bytes, bytes < 100000, true);
        before = BEAN.getCurrentThreadAllocatedBytes();
        HundredMenAft[] many = new HundredMenAft[1000];
        for (int i = 0; i < many.length; i++) {
            many[i] = new HundredMenAft();
        }
        bytes = (BEAN.getCurrentThreadAllocatedBytes() - before) / many.length;
        Check.due("bytes of one object: " + bytes, bytes < 8000, true);
        Check.finish("RoomTest");
    }

    private static HundredMenAft full() {
        HundredMenAft x = new HundredMenAft();
        for (int i = 0; i < 15; i++) {
            int kind = i < 5 ? 0 : i < 11 ? 1 : i < 13 ? 2 : 3;
            x.load(kind, i * 10 - 70, i % 5 - 2, 999, 400);
        }
        x.base(500, 0, 0);
        x.hull(6500, 7);
        for (int i = 0; i < 6; i++) {
            x.layer(i * 50, 1000 + i);
            x.pump(i == 0 ? -1 : i - 1, i == 5 ? -1 : i, i + 1, i % 2 == 0);
            Check.telling(x, "l" + i + ",1;v0-1,2;b2,-30");
            x.eats(5 + i, i + 1, 50, i == 5 ? 0 : 6 + i);
        }
        for (int i = 0; i < 12; i++) {
            x.gauge(i, i, i % 3, 0);
        }
        Check.book(x, "0=(h+m)*2;1=-h;2=n1+n3*(l-(d+w));3=((((9))));4=n5");
        x.air(99999);
        return x;
    }

    private static void dearCalls(HundredMenAft x) {
        x.hover(0, 600);
        x.holds(0);
        x.liar(0, 0, 0, 0);
        x.two(0, 0, 0, 0);
        x.best(1, 0);
        x.trim(300, false);
        x.reach(0);
        x.dive(0, 600, 600);
        x.forward(11, 12, 0, 600, 600);
        x.fits(99);
        x.look(99, 0);
        x.rise(31, 0);
        x.lasts(0);
        x.shift(0);
        x.ground(0, 0);
        x.ice(600, 1);
        x.morning();
    }
}
