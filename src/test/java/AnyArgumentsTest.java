import java.lang.management.ManagementFactory;
import java.util.NoSuchElementException;
import java.util.Random;

/** Whatever is asked in whatever state, no call throws but rests, and no call fills the room. */
public final class AnyArgumentsTest {
    private static final int[] FAR = {Integer.MIN_VALUE, Integer.MIN_VALUE + 1, -65536, -32, -2, -1, 0, 1, 2, 3, 4, 5, 6, 7, 8, 9,
        10, 11, 12, 13, 20, 21, 31, 32, 33, 39, 40, 41, 60, 63, 64, 99, 100, 1000, 1896, 2000, 2001, 4000, 4001, 9999, 10000,
        65536, Integer.MAX_VALUE - 1, Integer.MAX_VALUE};
    private static final String ALL = "person a plain born 1890 plea 6;person b leap born 1880 plea 5;person c heir born 1 plea 4;"
            + "person d lover born 1870 plea 8;person e lover born 1862 plea 7;person f plain born 1899 plea 1;"
            + "first 9999*9999*9999-(stood*(asks+age*(9999*(days or 1))))*asks;";

    public static void main(String[] args) {
        for (int seed = 0; seed < 300; seed++) {
            run(seed);
        }
        room();
        Check.end();
    }

    private static void run(int seed) {
        Random random = new Random(seed);
        LeapCapital x = new LeapCapital();
        if (seed % 10 != 0) {
            Check.due("realm", Check.realm(x, ALL), 0);
        }
        for (int i = 0; i < 470; i++) {
            int call = random.nextInt(37);
            String told = "seed " + seed + ", call " + i + " of sort " + call;
            try {
                any(x, call, random);
                Check.due(told, true, true);
            } catch (NoSuchElementException e) {
                Check.due(told + " threw", call == 0, true);
            } catch (RuntimeException e) {
                Check.due(told + " threw " + e, true, false);
            }
        }
    }

    private static void any(LeapCapital x, int call, Random random) {
        int a = FAR[random.nextInt(FAR.length)];
        int b = FAR[random.nextInt(FAR.length)];
        int c = FAR[random.nextInt(FAR.length)];
        int near = random.nextInt(6);
        switch (call) {
            case 0: x.rests(a, b, c, near - 1); break;
            case 1: x.feed(random.nextLong(), random.nextLong(), random.nextLong()); break;
            case 2: if (near == 0) { x.realm(); } break;
            case 3: x.reign(); break;
            case 4: x.person(near, b); break;
            case 5: x.come(random.nextBoolean() ? near : a); break;
            case 6: x.leave(a); break;
            case 7: x.lamp(a); break;
            case 8: x.waits(); break;
            case 9: x.ride(); break;
            case 10: x.undo(); break;
            case 11: x.judged(a); break;
            case 12: x.leap(a); break;
            case 13: x.between(a, b); break;
            case 14: x.next(a); break;
            case 15: x.weekday(a); break;
            case 16: x.gate(a, b); break;
            case 17: x.call(a); break;
            case 18: x.when(a); break;
            case 19: x.audience(a); break;
            case 20: x.burnt(a); break;
            case 21: x.crowd(a); break;
            case 22: x.exchange(near, b); break;
            case 23: x.lastday(a); break;
            case 24: x.cycle(a); break;
            case 25: x.need(a); break;
            case 26: x.coming(near, b); break;
            case 27: x.old(a); break;
            case 28: x.julian(a); break;
            case 29: x.stale(); break;
            case 30: x.say(a, near < 3); break;
            case 31: x.fits(a); break;
            case 32: x.ask(); break;
            case 33: x.chance(near, b); break;
            case 34: x.ages(a, b, near - 1); break;
            case 35: x.mark(near - 1, b < 5); break;
            default: x.count(a);
        }
    }

    /** The dearest questions make no objects: 512 calls of each leave the room as it was. */
    private static void room() {
        com.sun.management.ThreadMXBean threads = (com.sun.management.ThreadMXBean) ManagementFactory.getThreadMXBean();
        long self = Thread.currentThread().getId();
        LeapCapital x = Check.told(ALL);
        LeapCapital y = Check.told(ALL);
        y.come(0);
        y.come(2);
        y.come(3);
        long sum = threads.getThreadAllocatedBytes(self);
        long before = threads.getThreadAllocatedBytes(self);
        for (int i = 0; i < 100; i++) {
            sum += x.coming(4, -1) + y.chance(3, 5) + y.need(3) + y.ages(i, 99, 0) + y.ask() + y.julian(99) + y.stale();
            sum += y.waits() + y.ride() + (y.mark(1, false) ? 1 : 0) + (y.undo() ? 1 : 0) + (y.mark(1, true) ? 1 : 0);
        }
        long made = threads.getThreadAllocatedBytes(self) - before;
        Check.due("bytes made: " + made + " (" + sum + ")", made < 4096, true);
    }
}
