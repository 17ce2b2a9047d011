import com.sun.management.ThreadMXBean;
import java.lang.management.ManagementFactory;

/**
 * All calls of one run live in one room: 600,000 objects and arrays, 7.3 million fields and elements. Here what is
 * made is weighed in bytes, at four a field or element the least that so many take, by runs of 512 calls.
 */
public final class RoomTest {
    private static final int CALLS = 512;
    private static final long ROOM = 7_300_000L * 4;
    // Less than an object a time; the machine may make a few of its own.
    private static final long NOTHING = 10_000;
    private static final ThreadMXBean BEAN = (ThreadMXBean) ManagementFactory.getThreadMXBean();
    // A law that has as many PARTS, signs and clauses as fit.
    private static final String LONG_LAW = Due.repeated("bars if not 1=1", 11, ";") + ";counts "
            + Due.repeated("1", 28, "+");

    private interface Made {
        void once(int time);
    }

    private static void fits(String what, long most, Made made) {
        made.once(0);
        long before = BEAN.getThreadAllocatedBytes(Thread.currentThread().getId());
        for (int time = 0; time < CALLS; time++) {
            made.once(time);
        }
        long bytes = BEAN.getThreadAllocatedBytes(Thread.currentThread().getId()) - before;
        System.out.println(what + ": " + bytes / CALLS + " bytes a time");
        Due.due(what + " makes " + bytes + " bytes", bytes <= most ? 1 : 0, 1);
    }

    public static void main(String[] args) {
        fits("new objects", ROOM, time -> new SeeSaws());
        SeeSaws x = Due.seven(9, 7);
        Due.due("image", x.image(0), 0);
        int[] fours = new int[100];
        for (int i = 0; i < fours.length; i++) {
            fours[i] = Due.four(LONG_LAW.getBytes(), 4 * i);
        }
        fits("laws gone back to", ROOM / 10, time -> {
            for (int i = 0; i < 100 && i * 4 < LONG_LAW.length(); i += 5) {
                x.feed(fours[i], fours[i + 1], fours[i + 2], fours[i + 3], fours[i + 4]);
            }
            x.end(LONG_LAW.length());
            if (x.law() != 0) {
                Due.due("law", x.fault(), SeeSaws.NONE);
            }
            x.back(0);
        });
        fits("images", ROOM / 10, time -> x.image(time % 2));
        fits("birds", ROOM / 10, time -> x.few(20, 99));
        fits("all that is asked on paper", NOTHING, time -> {
            x.settle(time % 8 - 1);
            x.least(time % 8 - 1);
            x.moved(time % 8 - 1);
            x.alone();
            x.exchanged(time % 2);
            x.shares(time % 3);
            x.off(time % 8 - 1);
            x.byTurns(time % 2);
            x.canBe();
            x.weigh(time % 3);
            x.compare(SeeSaws.NONE);
            x.days(time, 60);
            x.drawn(time % 7, time % 2);
        });
        fits("what is done", NOTHING, time -> {
            x.put(time % 7, time % 5);
            x.pad(time % 7, time % 30 + 1);
            x.pass();
            x.undo();
            x.undo();
            x.take(time % 7);
            x.weighed(1, 2, 1);
            x.terms(3, time % 10);
        });
        Due.end();
    }
}
