import java.util.Arrays;

/** Promises 2 to 5: append, flush, compact, expire. */
public final class WritingTest {
    private static final Checks CHECKS = new Checks();

    public static void main(String[] args) {
        appendWritesABlock();
        appendAsksForRisingTimes();
        appendRefusesInOrder();
        appendTakes128Blocks();
        flushTurnsTheDisk();
        flushSealsMostByMost();
        flushOfEmptyHeadsWritesNothing();
        flushMakes96ChunksAtMost();
        flushFillsTheLeastPlace();
        flushOverwritesTheLogFromItsStart();
        compactTakesInAsLongAsMostAllows();
        compactLeavesTheOthersAsTheyAre();
        compactKeepsTheHeads();
        compactRefuses();
        compactLacksSpace();
        compactFillsTheAreaToItsEnd();
        expireLetsOldChunksGo();
        expireLeavesHeadsAndLaterChunks();
        CHECKS.done();
    }

    private static void appendWritesABlock() {
        PointLedger x = new PointLedger(3, 4, 2);
        CHECKS.same("append(2, -7, 99)", x.append(2, -7, 99), 0);
        CHECKS.same("append(0, 5, -4)", x.append(0, 5, -4), 0);
        CHECKS.cells("append", x, 1923, 2, -7, 99, 1, 0, 5, -4, 1, 0);
        CHECKS.cells("append leaves the root", x, 0, 0, 0);
        CHECKS.same("append: writes", x.look(0), 8);
        CHECKS.same("append: logged", x.look(1), 2);
        CHECKS.same("append: head of 2", x.sizes(2, 1), 1);
        CHECKS.same("append: head of 1", x.sizes(1, 1), 0);
        x.flush();
        CHECKS.same("append behind flush()", x.append(1, 0, 0), 0);
        CHECKS.cells("the stamp is epoch + 1", x, 1923, 1, 0, 0, 2, 0, 5, -4, 1);
    }

    private static void appendAsksForRisingTimes() {
        PointLedger x = new PointLedger(2, 4, 2);
        CHECKS.same("any time is right at first", x.append(0, Integer.MIN_VALUE, 1), 0);
        CHECKS.same("the same time", x.append(0, Integer.MIN_VALUE, 2), PointLedger.NOT_RISING);
        CHECKS.same("one above", x.append(0, Integer.MIN_VALUE + 1, 2), 0);
        CHECKS.same("of another series", x.append(1, Integer.MIN_VALUE, 2), 0);
        CHECKS.same("below, in the head", x.append(0, Integer.MIN_VALUE, 2), PointLedger.NOT_RISING);
        x.flush();
        CHECKS.same("the same time, in a chunk", x.append(0, Integer.MIN_VALUE + 1, 2), PointLedger.NOT_RISING);
        CHECKS.same("the greatest time", x.append(0, Integer.MAX_VALUE, 2), 0);
        CHECKS.same("behind the greatest time", x.append(0, Integer.MAX_VALUE, 2), PointLedger.NOT_RISING);
        CHECKS.same("far below the head's", x.append(0, 0, 2), PointLedger.NOT_RISING);
        x.flush();
        x.expire(Integer.MAX_VALUE);
        CHECKS.same("a chunk that ends at the time stays", x.append(0, 3, 3), PointLedger.NOT_RISING);
        CHECKS.same("all of series 1 went", x.append(1, Integer.MIN_VALUE, 3), 0);
    }

    private static void appendRefusesInOrder() {
        PointLedger x = new PointLedger(2, 4, 2);
        for (int t = 0; t < 128; t++) {
            x.append(0, t, t);
        }
        int writes = x.look(0);
        CHECKS.same("bad series ahead of no space", x.append(2, 500, 0), PointLedger.BAD_SERIES);
        CHECKS.same("bad series below 0", x.append(-1, 500, 0), PointLedger.BAD_SERIES);
        CHECKS.same("bad series, least", x.append(Integer.MIN_VALUE, 500, 0), PointLedger.BAD_SERIES);
        CHECKS.same("not rising ahead of no space", x.append(0, 127, 0), PointLedger.NOT_RISING);
        CHECKS.same("no space", x.append(0, 128, 0), PointLedger.NO_SPACE);
        x.crashAfter(0);
        CHECKS.same("power does not go where nothing is written", x.append(0, 128, 0), PointLedger.NO_SPACE);
        CHECKS.same("still up", x.look(6), 0);
        CHECKS.same("nothing was written", x.look(0), writes);
        CHECKS.same("power goes in flush()", x.flush(), PointLedger.DOWN);
        CHECKS.same("down ahead of bad series", x.append(2, 500, 0), PointLedger.DOWN);
        CHECKS.same("down ahead of not rising", x.append(0, 0, 0), PointLedger.DOWN);
        CHECKS.same("down ahead of no space", x.append(0, 128, 0), PointLedger.DOWN);
    }

    private static void appendTakes128Blocks() {
        PointLedger x = new PointLedger(1, 64, 2);
        for (int t = 0; t < 127; t++) {
            x.append(0, t, -t);
        }
        CHECKS.same("the 128th block", x.append(0, 127, -127), 0);
        CHECKS.cells("the last block", x, 1923 + 127 * 4, 0, 127, -127, 1, 0);
        CHECKS.same("the 129th block", x.append(0, 128, 0), PointLedger.NO_SPACE);
        CHECKS.same("all are logged", x.look(1), 128);
        CHECKS.same("all are sealed", x.flush(), 2);
        CHECKS.same("there is room again", x.append(0, 128, 0), 0);
    }

    private static void flushTurnsTheDisk() {
        PointLedger x = new PointLedger(3, 2, 2);
        x.append(2, 50, -3);
        x.append(0, 10, 7);
        x.append(2, 60, -5);
        x.append(2, 61, 100);
        CHECKS.same("flush()", x.flush(), 3);
        CHECKS.cells("flush: root is epoch 1, side 1", x, 0, 3, 0);
        CHECKS.cells("flush: index", x, 962, 3,
                0, 10, 10, 1, 7, 7, 0, 7, 2435, 2,
                2, 50, 60, 2, -5, -3, -1, -8, 2437, 3,
                2, 61, 61, 1, 100, 100, 0, 100, 2440, 2,
                0);
        // E 10 is 10 and 1001010; D -2 is Z 3: 1 0011 and 0.
        CHECKS.cells("flush: chunks", x, 2435, 10, 7, 50, -3, 0b10_1001010_10011_0 << 17, 61, 100, 0);
        CHECKS.same("flush: writes", x.look(0), 16 + 7 + 31 + 1);
        CHECKS.same("flush: nothing is logged", x.look(1), 0);
        CHECKS.same("flush: no head", x.sizes(2, 1), 0);
        x.append(1, 0, 0);
        CHECKS.same("flush() again", x.flush(), 1);
        CHECKS.cells("flush again: root is epoch 2, side 0", x, 0, 4);
        CHECKS.cells("flush again: index", x, 1, 4,
                0, 10, 10, 1, 7, 7, 0, 7, 2435, 2,
                1, 0, 0, 1, 0, 0, 0, 0, 2442, 2,
                2, 50, 60, 2, -5, -3, -1, -8, 2437, 3);
    }

    private static void flushSealsMostByMost() {
        PointLedger x = new PointLedger(2, 3, 2);
        for (int t = 0; t < 7; t++) {
            x.append(0, t, t);
        }
        for (int t = 0; t < 6; t++) {
            x.append(1, t, t);
        }
        CHECKS.same("flush()", x.flush(), 5);
        int[] due = {3, 3, 1};
        for (int k = 0; k < due.length; k++) {
            CHECKS.same("points of chunk " + k, x.chunk(0, k, 2), due[k]);
        }
        CHECKS.same("chunks of series 1", x.sizes(1, 0), 2);
        x.append(0, 7, 7);
        CHECKS.same("a chunk that is not full takes in none", x.flush(), 1);
        CHECKS.same("it stays as it is", x.chunk(0, 2, 2), 1);
        CHECKS.same("the new one stands behind it", x.chunk(0, 3, 0), 7);
    }

    private static void flushOfEmptyHeadsWritesNothing() {
        PointLedger x = new PointLedger(1, 3, 2);
        CHECKS.same("flush() of a new one", x.flush(), 0);
        x.append(0, 0, 0);
        x.flush();
        x.crashAfter(0);
        int writes = x.look(0);
        CHECKS.same("flush() of empty heads", x.flush(), 0);
        CHECKS.same("nothing is written", x.look(0), writes);
        CHECKS.same("nor turned", x.cell(0), 3);
        CHECKS.same("nor does power go", x.look(6), 0);
    }

    private static void flushMakes96ChunksAtMost() {
        PointLedger x = new PointLedger(2, 2, 2);
        fillChunks(x, 95);
        x.append(1, 1000, 1);
        x.append(1, 1001, 1);
        x.append(1, 1002, 1);
        int writes = x.look(0);
        int root = x.cell(0);
        x.crashAfter(0);
        CHECKS.same("flush() to 97 chunks", x.flush(), PointLedger.NO_SPACE);
        CHECKS.same("it writes nothing", x.look(0), writes);
        CHECKS.same("it leaves the root", x.cell(0), root);
        CHECKS.same("it leaves the head", x.sizes(1, 1), 3);
        CHECKS.same("it leaves the log", x.look(1), 3);
        CHECKS.same("power stays", x.look(6), 0);
        x.recover();
        CHECKS.same("a chunk goes", x.expire(2), 2);
        CHECKS.same("flush() to 96 chunks", x.flush(), 2);
        CHECKS.same("there are 96", x.look(2), 96);
        x.append(0, 5000, 0);
        CHECKS.same("flush() to 97 chunks again", x.flush(), PointLedger.NO_SPACE);
        CHECKS.same("all is got back", x.recover(), 2 * 94 + 3 + 1);
    }

    private static void fillChunks(PointLedger x, int chunks) {
        for (int t = 0; t < 2 * chunks; t++) {
            if (x.append(0, t, 0) == PointLedger.NO_SPACE) {
                x.flush();
                x.append(0, t, 0);
            }
        }
        x.flush();
        CHECKS.same("chunks for the beginning", x.look(2), chunks);
    }

    private static void flushFillsTheLeastPlace() {
        PointLedger x = new PointLedger(2, 2, 2);
        x.append(0, 1, 0);
        x.append(1, 100, 0);
        x.append(1, 101, 0);
        x.append(1, 102, 0);
        x.flush();
        CHECKS.same("place of the first", x.chunk(0, 0, 5), 2435);
        CHECKS.same("place of the second", x.chunk(1, 0, 5), 2437);
        CHECKS.same("place of the third", x.chunk(1, 1, 5), 2440);
        CHECKS.same("the first one goes", x.expire(50), 1);
        x.append(0, 60, 0);
        x.append(0, 61, 0);
        x.append(1, 103, 0);
        x.flush();
        CHECKS.same("three cells do not go into two", x.chunk(0, 0, 5), 2442);
        CHECKS.same("two cells go into two", x.chunk(1, 2, 5), 2435);
        CHECKS.same("cells of chunks", x.look(3), 2 + 3 + 2 + 3);
    }

    private static void flushOverwritesTheLogFromItsStart() {
        PointLedger x = new PointLedger(1, 2, 2);
        x.append(0, 1, 10);
        x.append(0, 2, 20);
        x.flush();
        x.append(0, 3, 30);
        CHECKS.same("one is logged", x.look(1), 1);
        CHECKS.cells("the first block is new, the second one old", x, 1923, 0, 3, 30, 2, 0, 2, 20, 1);
        CHECKS.same("the old one is not got back", x.recover(), 3);
        CHECKS.same("one is logged still", x.look(1), 1);
    }

    private static void appendAndFlush(PointLedger x, int series, int from, int points) {
        for (int t = from; t < from + points; t++) {
            x.append(series, t, 10 * t);
        }
        x.flush();
    }

    private static void compactTakesInAsLongAsMostAllows() {
        PointLedger x = new PointLedger(2, 5, 2);
        int[] sizes = {2, 2, 2, 1, 2, 4, 5, 1};
        int at = 0;
        for (int size : sizes) {
            appendAndFlush(x, 1, at, size);
            at += size;
        }
        int root = x.cell(0);
        CHECKS.same("compact(1)", x.compact(1), 3);
        int[] due = {4, 5, 4, 5, 1};
        CHECKS.same("chunks left", x.sizes(1, 0), due.length);
        for (int k = 0; k < due.length; k++) {
            CHECKS.same("points of chunk " + k, x.chunk(1, k, 2), due[k]);
        }
        CHECKS.same("the epoch stays, the side turns", x.cell(0), root ^ 1);
        CHECKS.same("all points are there", x.aggCount(1, 0, at), at);
        CHECKS.same("with their values", x.aggSum(1, 0, at), 10L * at * (at - 1) / 2);
        CHECKS.same("compact(1) again", x.compact(1), 0);
        CHECKS.same("it did not turn", x.cell(0), root ^ 1);
    }

    private static void compactLeavesTheOthersAsTheyAre() {
        PointLedger x = new PointLedger(2, 4, 2);
        appendAndFlush(x, 0, 0, 4);
        appendAndFlush(x, 0, 4, 1);
        appendAndFlush(x, 1, 0, 1);
        appendAndFlush(x, 0, 5, 1);
        appendAndFlush(x, 1, 1, 1);
        int writes = x.look(0);
        CHECKS.same("compact(0)", x.compact(0), 1);
        CHECKS.same("a full one stays", x.chunk(0, 0, 5), 2435);
        CHECKS.same("the new one gets a free place while the old ones are there", x.chunk(0, 1, 5), 2447);
        CHECKS.same("another series stays", x.chunk(1, 0, 5), 2441);
        CHECKS.same("another series is not joined", x.sizes(1, 0), 2);
        CHECKS.same("only the new chunk, the index, the root are written", x.look(0), writes + 3 + 41 + 1);
        x.append(1, 2, 0);
        x.flush();
        CHECKS.same("places that went are used again", x.chunk(1, 2, 5), 2439);
    }

    private static void compactKeepsTheHeads() {
        PointLedger x = new PointLedger(1, 4, 2);
        appendAndFlush(x, 0, 0, 1);
        appendAndFlush(x, 0, 1, 1);
        x.append(0, 9, 90);
        CHECKS.same("compact(0)", x.compact(0), 1);
        CHECKS.same("the head stays", x.sizes(0, 1), 1);
        CHECKS.same("and stays logged", x.look(1), 1);
        CHECKS.same("also on the disk", x.recover(), 3);
        CHECKS.same("sum", x.aggSum(0, 0, 9), 100);
    }

    private static void compactRefuses() {
        PointLedger x = new PointLedger(2, 4, 2);
        x.crashAfter(0);
        CHECKS.same("compact(2)", x.compact(2), PointLedger.BAD_SERIES);
        CHECKS.same("compact(-1)", x.compact(-1), PointLedger.BAD_SERIES);
        CHECKS.same("compact(0) without chunks", x.compact(0), 0);
        x.recover();
        appendAndFlush(x, 0, 0, 3);
        appendAndFlush(x, 0, 3, 2);
        x.crashAfter(0);
        CHECKS.same("compact(0) of 3 and 2", x.compact(0), 0);
        CHECKS.same("power stays", x.look(6), 0);
        x.append(0, 9, 0);
        CHECKS.same("compact(2) of a store that is down", x.compact(2), PointLedger.DOWN);
        CHECKS.same("compact(0) of a store that is down", x.compact(0), PointLedger.DOWN);
    }

    /** Points that take the most bits there are, 79 each, in chunks of so many. */
    private static void appendWide(PointLedger x, int... sizes) {
        int time = Integer.MIN_VALUE;
        int value = 0;
        boolean far = true;
        for (int size : sizes) {
            for (int k = 0; k < size; k++) {
                time += far ? 9_000_000 : 3_000_000;
                value += Integer.MIN_VALUE;
                far = !far;
                x.append(0, time, value);
            }
            x.flush();
        }
    }

    private static int lengthOfWide(int points) {
        return 2 + ((points - 1) * 79 + 31) / 32;
    }

    private static void compactLacksSpace() {
        PointLedger x = new PointLedger(1, 64, 2);
        int[] sizes = new int[16];
        Arrays.fill(sizes, 24);
        appendWide(x, sizes);
        int points = 16 * 24;
        CHECKS.same("cells of chunks", x.look(3), 16L * lengthOfWide(24));
        int writes = x.look(0);
        x.crashAfter(0);
        CHECKS.same("compact(0)", x.compact(0), PointLedger.NO_SPACE);
        CHECKS.same("it writes nothing", x.look(0), writes);
        CHECKS.same("it changes nothing", x.sizes(0, 0), 16);
        CHECKS.same("power stays", x.look(6), 0);
        CHECKS.same("all is got back", x.recover(), points);
        CHECKS.same("half of it goes", x.expire(x.chunk(0, 7, 1) + 1), points / 2);
        CHECKS.same("compact(0) now", x.compact(0), 4);
        CHECKS.same("count", x.aggCount(0, Integer.MIN_VALUE, Integer.MAX_VALUE), points / 2);
    }

    private static void compactFillsTheAreaToItsEnd() {
        int[] sizes = {24, 24, 24, 24, 24, 24, 24, 24, 24, 24, 23, 24, 24, 25};
        int old = 12 * lengthOfWide(24) + lengthOfWide(23) + lengthOfWide(25);
        int joined = 5 * lengthOfWide(48) + lengthOfWide(47) + lengthOfWide(49);
        CHECKS.same("two cells are left", 4096 - 2435 - old - joined, 2);
        for (int others = 0; others < 3; others++) {
            PointLedger x = new PointLedger(3, 64, 2);
            for (int s = 1; s <= others; s++) {
                x.append(s, 0, 0);
                x.flush();
            }
            appendWide(x, sizes);
            CHECKS.same("cells of chunks", x.look(3), old + 2 * others);
            CHECKS.same("compact(0) beside " + others, x.compact(0), others < 2 ? 7 : PointLedger.NO_SPACE);
            if (others == 1) {
                CHECKS.same("it ends where the disk ends", x.chunk(0, 6, 5) + x.chunk(0, 6, 6), 4096);
                CHECKS.same("cell(4095)", x.cell(4095), 0xFFFE0000);
                CHECKS.same("the last value", x.aggMin(0, x.chunk(0, 6, 1), Integer.MAX_VALUE), 0);
            }
            CHECKS.same("all is got back", x.recover(), 336 + others);
        }
    }

    private static void expireLetsOldChunksGo() {
        PointLedger x = new PointLedger(3, 2, 2);
        for (int t = 0; t < 6; t++) {
            x.append(0, t, 0);
            x.append(2, t + 2, 0);
        }
        x.flush();
        int writes = x.look(0);
        int root = x.cell(0);
        x.crashAfter(0);
        CHECKS.same("a chunk whose last time is not below stays", x.expire(1), 0);
        CHECKS.same("the least time", x.expire(Integer.MIN_VALUE), 0);
        CHECKS.same("nothing is written", x.look(0), writes);
        x.recover();
        CHECKS.same("chunks of two series go", x.expire(4), 6);
        CHECKS.same("chunks left of 0", x.sizes(0, 0), 1);
        CHECKS.same("chunks left of 2", x.sizes(2, 0), 2);
        CHECKS.same("the epoch stays, the side turns", x.cell(0), root ^ 1);
        CHECKS.same("index and root are written", x.look(0), writes + 31 + 1);
        CHECKS.cells("the index", x, 1, 3, 0, 4, 5, 2);
        CHECKS.same("the greatest time", x.expire(Integer.MAX_VALUE), 6);
        CHECKS.same("no chunks", x.look(2), 0);
        CHECKS.same("an index without entries", x.cell(962), 0);
        CHECKS.same("what stands behind it is left", x.cell(965), 1);
        CHECKS.same("once more", x.expire(Integer.MAX_VALUE), 0);
    }

    private static void expireLeavesHeadsAndLaterChunks() {
        PointLedger x = new PointLedger(1, 2, 2);
        for (int t = 0; t < 5; t++) {
            x.append(0, t, t);
        }
        x.flush();
        x.append(0, 5, 5);
        int place = x.chunk(0, 1, 5);
        CHECKS.same("expire(3)", x.expire(3), 2);
        CHECKS.same("the second one is the first one now", x.chunk(0, 0, 0), 2);
        CHECKS.same("at its place", x.chunk(0, 0, 5), place);
        CHECKS.same("points of chunks that are old in part stay", x.aggCount(0, 0, 2), 1);
        CHECKS.same("expire(100)", x.expire(100), 3);
        CHECKS.same("heads stay", x.aggCount(0, 0, 100), 1);
        CHECKS.same("and are asked for rising times", x.append(0, 5, 0), PointLedger.NOT_RISING);
        x.crashAfter(0);
        x.append(0, 6, 0);
        CHECKS.same("expire() of a store that is down", x.expire(100), PointLedger.DOWN);
    }
}
