import com.sun.management.ThreadMXBean;
import java.lang.management.ManagementFactory;

/** Rule 12 of LANGUAGE.md and the one room of a run: no call makes an object, and a new one is small. */
public final class RoomTest {
    private static final ThreadMXBean THREADS = (ThreadMXBean) ManagementFactory.getThreadMXBean();
    private static final long ME = Thread.currentThread().getId();
    private static final int TIMES = 50;
    private static final int CALLS = 50;
    /** The machine itself may make a little now and then; what the class makes, it makes in each try. */
    private static final int TRIES = 5;
    /** A tenth of what a room holds would be some 700,000 fields and elements of up to 8 bytes. */
    private static final long MOST_BYTES = 200_000;
    private static long answers = 0;

    public static void main(String[] args) {
        int wrong = 0;
        // the first of all loads the classes
        answers += new WakeHouse().count(0);
        WakeHouse x = null;
        long made = Long.MAX_VALUE;
        for (int t = 0; t < TRIES && made > MOST_BYTES; t++) {
            long before = THREADS.getThreadAllocatedBytes(ME);
            x = new WakeHouse();
            made = THREADS.getThreadAllocatedBytes(ME) - before;
        }
        if (made > MOST_BYTES) {
            wrong++;
            System.out.println("a new object has " + made + " bytes");
        }
        StringBuilder text = new StringBuilder(Sentences.beds(12) + "clock k 12; clock l 11; hears loud - gap / (deep + 1); again [20 < after] * 3;");
        for (int i = 0; i < 12; i++) text.append(Sentences.sleeper(i, i == 11 ? "vain 3" : "up " + (60 + 7 * i) + " late 2"));
        if (Sentences.tell(x, text.toString()) != 0) throw new IllegalStateException();
        for (int call = 0; call < CALLS; call++) {
            answers += one(x, call, 0);
            made = madeBy(x, call);
            if (made >= 16L * TIMES) {
                wrong++;
                System.out.println("call " + (call + 1) + ", " + TIMES + " times, made " + made + " bytes");
            }
        }
        System.out.println("a new object and " + CALLS * TIMES + " calls, " + wrong + " wrong");
        if (wrong != 0 || answers == 0) System.exit(1);
    }

    /** The fewest bytes that the call, made so many times, took of the room in a few tries. */
    private static long madeBy(WakeHouse x, int call) {
        long fewest = Long.MAX_VALUE;
        for (int t = 0; t < TRIES && fewest >= 16L * TIMES; t++) {
            long before = THREADS.getThreadAllocatedBytes(ME);
            for (int i = 0; i < TIMES; i++) answers += one(x, call, i);
            fewest = Math.min(fewest, THREADS.getThreadAllocatedBytes(ME) - before);
        }
        return fewest;
    }

    private static long one(WakeHouse x, int call, int i) {
        return call < 25 ? told(x, call, i) : found(x, call, i);
    }

    private static long bit(boolean b) {
        return b ? 1 : 0;
    }

    private static long told(WakeHouse x, int call, int i) {
        switch (call) {
            case 0: return x.count(0);
            case 1: return x.feed(1650811936, 1629499424, 809181282, 1701060706, 540024882);
            case 2: return x.back(i % 3);
            // a text with a FAULT: the house stays
            case 3: return x.feed(1650811936, 1629499424, 809181282, 1701060706, 540024882) + x.read();
            case 4: return x.place();
            case 5: return x.of(i % 12, i % 7);
            case 6: return x.lies(i % 13);
            case 7: return x.hears(i % 12, 9, i % 12, i);
            case 8: return x.again(i % 12, i);
            case 9: return i < 2 ? x.ring(0, 0, 60 + i) : x.ring(0, 0, 400);
            case 10: return i < 2 ? x.string(i, 70) : x.string(12, 0);
            case 11: return i < 2 ? x.pole(i, 80) : x.pole(12, 0);
            case 12: return i < 3 ? x.drop(0) : x.drop(-1);
            case 13: return x.sound(i % 6, i % 4);
            case 14: return bit(x.wool(i % 12, i % 2 == 0));
            case 15: return bit(x.swap(i % 12, 3));
            case 16: return x.ways();
            case 17: return x.up(i % 12);
            case 18: return x.woken(i % 12);
            case 19: return x.cost();
            case 20: return x.worst();
            case 21: return x.hours(i - 1);
            case 22: return x.best(0, i % 2 == 0 ? -1 : 1, i);
            case 23: return x.bestAt(0, 1, i, i % 4);
            default: return x.fewest(i % 2);
        }
    }

    private static long found(WakeHouse x, int call, int i) {
        switch (call) {
            case 25: return x.deaf(i % 2);
            case 26: return x.walk(i % 12, 3);
            case 27: return x.shakes(1 + i % 2, 0);
            case 28: return x.shaker(1 + i % 2, i % 12);
            case 29: return x.twice(i % 11, 9, 3, 30);
            case 30: return x.twiceAt(i % 11, 9, 3, 9, i % 3);
            case 31: return x.swaps(i);
            case 32: return x.swapAt(i, 0);
            case 33: return x.worth(i % 12);
            case 34: return x.whose(i % 13);
            case 35: return x.round(i);
            case 36: return x.roundAt(i, 0);
            case 37: return x.morning(i % 12, i % 7, 8 * i);
            case 38: return x.annul(i);
            case 39: return x.alone(i % 12, 7, i, 1);
            case 40: return x.mondays(i, 2);
            case 41: return x.mondayWays(i, true);
            case 42: return x.fire(i % 12, 9, true);
            case 43: return x.reaches(i % 12, 9, true);
            case 44: return x.day(i, i);
            case 45: return x.days(i, 50, -1);
            case 46: return bit(x.hold(i % 2));
            case 47: return bit(x.restore(i % 2));
            case 48: return x.count(i % 8);
            default: return told(x);
        }
    }

    /** A text of 28 bytes without a FAULT, which is filled up with blanks. */
    private static long told(WakeHouse x) {
        x.back(x.count(6));
        x.feed(0x62656420, 0x61203020, 0x303b6865, 0x61727320, 0x312b2861);
        x.feed(0x66746572, 0x293b2020, 0x20202020, 0x20202020, 0x20202020);
        int fault = x.read();
        if (fault != 0) throw new IllegalStateException("FAULT " + fault + " at " + x.place());
        return 1;
    }
}
