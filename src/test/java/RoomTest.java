import com.sun.management.ThreadMXBean;
import java.lang.management.ManagementFactory;
import java.util.NoSuchElementException;
import java.util.Random;

/** All calls of a run live in one room; and none ever throws but what the document names, whatever its arguments are. */
public final class RoomTest {
    private static final int[] EDGES = {
        Integer.MIN_VALUE, Integer.MIN_VALUE + 1, -1_000_001, -2, -1, 0, 1, 2, 3, 7, 8, 64, 95, 96, 97, 127, 128, 962, 1923,
        2435, 4095, 4096, 1_000_000, 1_000_001, Integer.MAX_VALUE - 1, Integer.MAX_VALUE,
    };
    // The room of a run: 7.3 million fields and elements of up to 8 bytes, 600,000 objects and arrays with 16 bytes more.
    private static final long MOST_BYTES = 8L * 7_300_000 + 16L * 600_000;
    private static final Checks CHECKS = new Checks();

    public static void main(String[] args) {
        fitsIntoTheRoom();
        throwsNothingElse();
        CHECKS.done();
    }

    private static void fitsIntoTheRoom() {
        ThreadMXBean threads = (ThreadMXBean) ManagementFactory.getThreadMXBean();
        long thread = Thread.currentThread().getId();
        // The first runs load classes, which makes objects that are not the class's own.
        for (int warm = 0; warm < 20; warm++) {
            useAll();
        }
        long start = threads.getThreadAllocatedBytes(thread);
        useAll();
        long made = threads.getThreadAllocatedBytes(thread) - start;
        CHECKS.yes("512 calls take " + made + " bytes, " + MOST_BYTES + " at most, which", made <= MOST_BYTES);
    }

    /** 512 calls, most of them the dear ones. */
    private static void useAll() {
        Ledger x = new Ledger(3, 4, 2);
        for (int round = 0; round < 9; round++) {
            for (int t = 0; t < 27; t++) {
                x.append(t % 3, 100 * round + t, t * t * 1_000_003);
            }
            x.flush();
            x.compact(round % 3);
            x.seek(0, 0, 100 * round);
            for (int k = 0; k < 15; k++) {
                x.next();
            }
            for (int k = 0; k < 2; k++) {
                x.aggSum(1, 50, 100 * round + k);
                x.aggMin(1, 50, 100 * round + k);
                x.aggMax(1, 50, 100 * round + k);
                x.aggCount(1, 50, 100 * round + k);
            }
            x.look(3);
            x.recover();
            x.expire(100 * round - 500);
        }
    }

    private static void throwsNothingElse() {
        for (int seed = 0; seed < 1000; seed++) {
            Random random = new Random(seed);
            Ledger x = new Ledger(some(random), some(random), some(random));
            for (int call = 0; call < 512; call++) {
                call(x, random);
            }
        }
        CHECKS.yes("all calls ended", true);
    }

    private static int some(Random random) {
        int kind = random.nextInt(10);
        return kind == 0 ? random.nextInt() : kind < 4 ? EDGES[random.nextInt(EDGES.length)] : random.nextInt(9);
    }

    private static void call(Ledger x, Random random) {
        int a = some(random);
        int b = some(random);
        int c = some(random);
        int kind = random.nextInt(40);
        try {
            switch (kind) {
                case 0 -> x.compact(a);
                case 1 -> x.expire(random.nextInt(4) == 0 ? a : Integer.MIN_VALUE + 500);
                case 2 -> x.seek(a, b, c);
                case 3 -> x.next();
                case 4 -> x.curTime();
                case 5 -> x.curVal();
                case 6 -> x.aggCount(a, b, c);
                case 7 -> x.aggMin(a, b, c);
                case 8 -> x.aggMax(a, b, c);
                case 9 -> x.aggSum(a, b, c);
                case 10 -> x.crashAfter(a);
                case 11, 12 -> x.recover();
                case 13 -> x.cell(a);
                case 14 -> x.sizes(a, b);
                case 15 -> x.chunk(a, b, c);
                case 16 -> x.group(a, b, c);
                case 17 -> x.look(a);
                case 18, 19, 20 -> x.flush();
                default -> x.append(a, random.nextBoolean() ? b : Integer.MIN_VALUE + random.nextInt(1 << (kind - 10)), c);
            }
        } catch (RuntimeException e) {
            Class<?> thrown = e.getClass();
            boolean due = kind >= 7 && kind <= 16
                    && (thrown == IllegalStateException.class || thrown == IndexOutOfBoundsException.class
                        || kind >= 14 && thrown == NoSuchElementException.class);
            CHECKS.yes("call of kind " + kind + " with " + a + ", " + b + ", " + c + " threw " + thrown, due);
        }
    }
}
