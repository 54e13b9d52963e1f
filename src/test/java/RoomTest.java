import com.sun.management.ThreadMXBean;
import java.lang.management.ManagementFactory;

/** All calls of a run live in one room: an object makes its rows once, and its calls use them again. */
final class RoomTest {
    private static final Check CHECK = new Check("RoomTest");
    private static final ThreadMXBean THREADS = (ThreadMXBean) ManagementFactory.getThreadMXBean();
    private static final long MOST_BYTES_OF_AN_OBJECT = 100_000;
    private static final long MOST_BYTES_OF_ITS_CALLS = 20_000;
    private static final int NONE = QuarrelOvens.NONE;

    private static final String VILLAGE = "people 8;subject 9 1;subject 8 1;subject 7 1;subject 6 1;subject 5 1;subject 4 1;"
        + "hearth 1 99;hearth 2 98;hearth 3 97;hearth 4 96;holds 0 0 0;holds 1 0 9;holds 2 0 4;holds 3 1 5;holds 4 1 1;holds 5 2 8;"
        + "holds 6 2 9;holds 7 3 0;holds 0 3 7;holds 1 4 1;holds 2 4 6;holds 3 5 2;holds 4 5 9;";
    private static final String DAY = "quarrel 0 1 0 0;news 5 9;hour;agree 0 1 0;deny 0 1 0;quarrel 0 1 0 1;";
    private static final String LOG = "burned 0 1 81;burned 0 1 72;";

    public static void main(String[] args) {
        // the first rounds load classes
        for (int round = 0; round < 3; round++) run(false);
        run(true);
        CHECK.end();
    }

    private static long made() {
        return THREADS.getCurrentThreadAllocatedBytes();
    }

    private static void run(boolean counts) {
        long begin = made();
        QuarrelOvens x = new QuarrelOvens();
        long ofObject = made() - begin;
        Check.tell(x, 0, NONE, VILLAGE);
        Check.tell(x, 1, NONE, DAY);
        Check.tell(x, 2, NONE, LOG);
        begin = made();
        long sum = 0;
        for (int i = 0; i < 12; i++) sum += telling(x, i) + wholes(x, i) + couples(x, i);
        long ofCalls = made() - begin;
        if (counts) {
            CHECK.due("it was asked", sum != 0, true);
            CHECK.due("an object has " + ofObject + " bytes", ofObject < MOST_BYTES_OF_AN_OBJECT, true);
            CHECK.due("its calls made " + ofCalls + " bytes", ofCalls < MOST_BYTES_OF_ITS_CALLS, true);
        }
    }

    /** The texts that are there are left; at the last one there is a fault. */
    private static long telling(QuarrelOvens x, int i) {
        long sum = x.feed(0x686f7572, 0x3b686f75, 0x723b686f, 0x75723b68, 0x6f75723b) + x.end(5 + i % 2) + x.text(1, i == 0 ? NONE : 1);
        return sum + x.fault(0) + x.count(1) + (x.image(i % 3) ? 1 : 0) + (x.again(i % 3) ? 1 : 0);
    }

    private static long wholes(QuarrelOvens x, int i) {
        long sum = x.village(0, i) + x.deed(0, i, 0) + x.stop(0, 0) + x.state(0, 0, i % 7, 10) + x.plan(0, NONE) + x.married(0, i - 1);
        sum += x.fact(0, 0, 2) + x.fits(0, 0, i % 3) + x.drawn(0, i, 60, 3) + x.calm(0, i % 6, i % 5) + x.filled(0, i % 4, NONE);
        sum += x.halves(0, i % 2 == 0) + x.circle(0, NONE) + x.kindred(0, i) + x.mean(0, i % 6, false) + x.after(0, 0, i % 4);
        return sum + x.farthest(0, i % 6, true) + x.quiet(0);
    }

    private static long couples(QuarrelOvens x, int i) {
        long sum = x.apart(0, 0, 1, i % 6, true) + x.keenest(0, 0, i % 8, true) + x.lasts(0, 0, 1, i % 6, true) + x.together(0, 0, i % 8);
        sum += x.hopes(0, 0, 1, 0, i % 11, false) + x.spent(0, 0, 1, i, NONE) + x.kept(0, 0, 1, 0, i % 4) + x.hired(0, 0, i % 8, true);
        return sum + x.next(0, 0, 0, i % 8, true);
    }
}
