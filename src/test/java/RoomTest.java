import com.sun.management.ThreadMXBean;
import java.lang.management.ManagementFactory;
import java.util.NoSuchElementException;
import java.util.Random;

/**
 * All calls of a run live in one room, so rows are made by the constructor alone; and no call ever throws but what the
 * document names, whatever its arguments are and however many calls there were.
 */
public final class RoomTest {
    private static final int[] EDGES = {
        Integer.MIN_VALUE, Integer.MIN_VALUE + 1, -1_000_001, -2, -1, 0, 1, 2, 3, 7, 8, 64, 95, 96, 97, 127, 128, 962, 1923,
        2435, 4095, 4096, 1_000_000, 1_000_001, Integer.MAX_VALUE - 1, Integer.MAX_VALUE,
    };
    private static final Checks CHECKS = new Checks();

    public static void main(String[] args) {
        makesNothingButInTheConstructor();
        throwsNothingElse();
        CHECKS.done();
    }

    private static void makesNothingButInTheConstructor() {
        ThreadMXBean threads = (ThreadMXBean) ManagementFactory.getThreadMXBean();
        long thread = Thread.currentThread().getId();
        // The first runs load classes, which makes objects that are not the class's own.
        for (int warm = 0; warm < 50; warm++) {
            useAll(new PointLedger(3, 4, 2));
        }
        long start = threads.getThreadAllocatedBytes(thread);
        PointLedger x = new PointLedger(3, 4, 2);
        long made = threads.getThreadAllocatedBytes(thread);
        useAll(x);
        long used = threads.getThreadAllocatedBytes(thread);
        CHECKS.yes("a new object takes " + (made - start) + " bytes, 50,000 at most, which", made - start <= 50_000);
        CHECKS.yes("its calls take " + (used - made) + " bytes, 2,000 at most, which", used - made <= 2_000);
    }

    private static void useAll(PointLedger x) {
        for (int round = 0; round < 8; round++) {
            for (int t = 0; t < 40; t++) {
                x.append(t % 3, 100 * round + t, t * t);
            }
            x.flush();
            x.compact(0);
            x.expire(100 * round - 150);
            x.seek(0, 0, 100 * round);
            x.next();
            x.aggSum(1, 50, 100 * round);
            x.aggMin(1, 50, 100 * round);
            x.aggMax(1, 50, 100 * round);
            x.aggCount(1, 50, 100 * round);
            x.group(1, 0, 2);
            x.chunk(1, 0, 2);
            x.sizes(1, 2);
            x.look(3);
            x.recover();
        }
    }

    private static void throwsNothingElse() {
        for (int seed = 0; seed < 200; seed++) {
            Random random = new Random(seed);
            PointLedger x = new PointLedger(some(random), some(random), some(random));
            for (int call = 0; call < 3000; call++) {
                call(x, random);
            }
        }
        CHECKS.yes("all calls ended", true);
    }

    private static int some(Random random) {
        int kind = random.nextInt(10);
        return kind == 0 ? random.nextInt() : kind < 4 ? EDGES[random.nextInt(EDGES.length)] : random.nextInt(9);
    }

    private static void call(PointLedger x, Random random) {
        int a = some(random);
        int b = some(random);
        int c = some(random);
        int kind = random.nextInt(40);
        try {
            switch (kind) {
                case 0 -> x.compact(a);
                case 1 -> x.expire(random.nextInt(4) == 0 ? a : Integer.MIN_VALUE + 500);
                case 2 -> x.seek(a, b, c);
                case 3 -> x.next();
                case 4 -> x.curTime();
                case 5 -> x.curVal();
                case 6 -> x.aggCount(a, b, c);
                case 7 -> x.aggMin(a, b, c);
                case 8 -> x.aggMax(a, b, c);
                case 9 -> x.aggSum(a, b, c);
                case 10 -> x.crashAfter(a);
                case 11, 12 -> x.recover();
                case 13 -> x.cell(a);
                case 14 -> x.sizes(a, b);
                case 15 -> x.chunk(a, b, c);
                case 16 -> x.group(a, b, c);
                case 17 -> x.look(a);
                case 18, 19, 20 -> x.flush();
                default -> x.append(a, random.nextBoolean() ? b : Integer.MIN_VALUE + random.nextInt(1 << (kind - 10)), c);
            }
        } catch (RuntimeException e) {
            Class<?> thrown = e.getClass();
            boolean due = kind >= 7 && kind <= 16
                    && (thrown == IllegalStateException.class || thrown == IndexOutOfBoundsException.class
                        || kind >= 14 && thrown == NoSuchElementException.class);
            CHECKS.yes("call of kind " + kind + " with " + a + ", " + b + ", " + c + " threw " + thrown, due);
        }
    }
}
