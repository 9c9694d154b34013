import java.util.NoSuchElementException;

/** Promises 16 to 20: cell, sizes, chunk, group, look. */
public final class TellingTest {
    private static final Checks CHECKS = new Checks();

    public static void main(String[] args) {
        cellsOfTheDisk();
        sizesOfASeries();
        numbersOfAChunk();
        numbersOfAGroup();
        exceptionsOfSizes();
        exceptionsOfChunk();
        exceptionsOfGroup();
        looks();
        CHECKS.done();
    }

    /** Series 2: chunks {1: -5, 2: 9, 4: 3} {8: 7, 16: 70, 32: -70} {64: 1}, head {65: 0, 66: 0}; 0 has one in its head. */
    private static PointLedger filled() {
        PointLedger x = new PointLedger(3, 3, 2);
        int[] values = {-5, 9, 3, 7, 70, -70, 1};
        for (int p = 0; p < values.length; p++) {
            x.append(2, 1 << p, values[p]);
        }
        x.flush();
        x.append(2, 65, 0);
        x.append(0, 3, 0);
        x.append(2, 66, 0);
        return x;
    }

    private static PointLedger gone() {
        PointLedger x = filled();
        x.crashAfter(0);
        x.flush();
        return x;
    }

    private static void cellsOfTheDisk() {
        for (PointLedger x : new PointLedger[] {filled(), gone()}) {
            CHECKS.cells("the root", x, 0, 3);
            CHECKS.cells("the index", x, 962, 3, 2, 1, 4, 3, -5, 9, 0, 7, 2435);
            CHECKS.cells("the log", x, 1923, 2, 65, 0, 2, 0, 3, 0, 2, 2, 66, 0, 2, 2, 8, 7, 1);
            CHECKS.cells("the area", x, 2435, 1, -5);
            for (int k : new int[] {-1, Integer.MIN_VALUE, 4096, 4097, Integer.MAX_VALUE}) {
                CHECKS.same("cell(" + k + ")", x.cell(k), 0);
            }
        }
        PointLedger x = new PointLedger(1, 64, 2);
        int time = Integer.MIN_VALUE;
        for (int p = 0; p < 60; p++) {
            time += p % 2 == 0 ? 9_000_000 : 3_000_000;
            x.append(0, time, p % 2 == 0 ? 0 : Integer.MIN_VALUE);
        }
        x.flush();
        int last = 2435 + x.chunk(0, 0, 6) - 1;
        CHECKS.yes("the last cell of a chunk has bits", x.cell(last) != 0);
        CHECKS.same("the one behind it has none", x.cell(last + 1), 0);
    }

    private static void sizesOfASeries() {
        PointLedger x = filled();
        int[][] due = {{0, 1, 0}, {0, 0, 0}, {3, 2, 2}};
        for (int s = 0; s < 3; s++) {
            for (int what = 0; what < 3; what++) {
                CHECKS.same("sizes(" + s + ", " + what + ")", x.sizes(s, what), due[s][what]);
            }
        }
        x.flush();
        CHECKS.same("chunks behind flush()", x.sizes(2, 0), 4);
        CHECKS.same("head behind flush()", x.sizes(2, 1), 0);
        CHECKS.same("groups behind flush()", x.sizes(2, 2), 2);
        CHECKS.same("groups of 0 behind flush()", x.sizes(0, 2), 1);
    }

    private static void numbersOfAChunk() {
        PointLedger x = filled();
        // Chunk 0 has E 1, 1 and D 14, -6: 36 bits. Chunk 1 has E 8, 8 and D 63, -140: 45 bits.
        int[][] due = {
            {1, 4, 3, -5, 9, 2435, 4},
            {8, 32, 3, -70, 70, 2439, 4},
            {64, 64, 1, 1, 1, 2443, 2},
        };
        for (int k = 0; k < 3; k++) {
            for (int what = 0; what < 7; what++) {
                CHECKS.same("chunk(2, " + k + ", " + what + ")", x.chunk(2, k, what), due[k][what]);
            }
        }
        x.flush();
        CHECKS.same("chunk 0 of series 0", x.chunk(0, 0, 0), 3);
        CHECKS.same("chunk 2 of series 2 is told by its own series", x.chunk(2, 2, 0), 64);
    }

    private static void numbersOfAGroup() {
        PointLedger x = filled();
        int[][] due = {
            {1, 32, 6, -70, 70, 2},
            {64, 64, 1, 1, 1, 1},
        };
        for (int g = 0; g < 2; g++) {
            for (int what = 0; what < 6; what++) {
                CHECKS.same("group(2, " + g + ", " + what + ")", x.group(2, g, what), due[g][what]);
            }
        }
        x.flush();
        CHECKS.same("a group takes in the next chunk", x.group(2, 1, 5), 2);
        CHECKS.same("its last time", x.group(2, 1, 1), 66);
        CHECKS.same("its points", x.group(2, 1, 2), 3);
        CHECKS.same("its least value", x.group(2, 1, 3), 0);
        x.expire(5);
        CHECKS.same("groups go from the first chunk on", x.group(2, 0, 1), 64);
        CHECKS.same("points then", x.group(2, 0, 2), 4);
        CHECKS.same("points of the last then", x.group(2, 1, 2), 2);
    }

    private static void exceptionsOfSizes() {
        PointLedger x = filled();
        for (int what : new int[] {-1, 3, Integer.MIN_VALUE, Integer.MAX_VALUE}) {
            CHECKS.throwing("sizes(2, " + what + ")", NoSuchElementException.class, () -> x.sizes(2, what));
            CHECKS.throwing("sizes(3, " + what + ")", IndexOutOfBoundsException.class, () -> x.sizes(3, what));
        }
        CHECKS.throwing("sizes(-1, 0)", IndexOutOfBoundsException.class, () -> x.sizes(-1, 0));
        CHECKS.throwing("sizes(MAX, 0)", IndexOutOfBoundsException.class, () -> x.sizes(Integer.MAX_VALUE, 0));
        PointLedger y = gone();
        CHECKS.throwing("sizes(2, 0) down", IllegalStateException.class, () -> y.sizes(2, 0));
        CHECKS.throwing("sizes(3, 0) down", IllegalStateException.class, () -> y.sizes(3, 0));
        CHECKS.throwing("sizes(2, 9) down", IllegalStateException.class, () -> y.sizes(2, 9));
    }

    private static void exceptionsOfChunk() {
        PointLedger x = filled();
        for (int bad : new int[] {-1, 7, Integer.MIN_VALUE, Integer.MAX_VALUE}) {
            CHECKS.throwing("chunk(2, 0, " + bad + ")", NoSuchElementException.class, () -> x.chunk(2, 0, bad));
            CHECKS.throwing("chunk(2, " + bad + ", 0)", NoSuchElementException.class, () -> x.chunk(2, bad, 0));
            CHECKS.throwing("chunk(" + bad + ", 0, 0)", IndexOutOfBoundsException.class, () -> x.chunk(bad, 0, 0));
            CHECKS.throwing("chunk(" + bad + ", 9, 9)", IndexOutOfBoundsException.class, () -> x.chunk(bad, 9, 9));
        }
        CHECKS.throwing("chunk(2, 3, 0)", NoSuchElementException.class, () -> x.chunk(2, 3, 0));
        CHECKS.throwing("chunk(0, 0, 0)", NoSuchElementException.class, () -> x.chunk(0, 0, 0));
        CHECKS.throwing("chunk(3, 0, 0)", IndexOutOfBoundsException.class, () -> x.chunk(3, 0, 0));
        PointLedger y = gone();
        CHECKS.throwing("chunk(2, 0, 0) down", IllegalStateException.class, () -> y.chunk(2, 0, 0));
        CHECKS.throwing("chunk(3, 9, 9) down", IllegalStateException.class, () -> y.chunk(3, 9, 9));
    }

    private static void exceptionsOfGroup() {
        PointLedger x = filled();
        for (int bad : new int[] {-1, 6, Integer.MIN_VALUE, Integer.MAX_VALUE, 1 << 30}) {
            CHECKS.throwing("group(2, 0, " + bad + ")", NoSuchElementException.class, () -> x.group(2, 0, bad));
            CHECKS.throwing("group(2, " + bad + ", 0)", NoSuchElementException.class, () -> x.group(2, bad, 0));
            CHECKS.throwing("group(" + bad + ", 0, 0)", IndexOutOfBoundsException.class, () -> x.group(bad, 0, 0));
            CHECKS.throwing("group(" + bad + ", 9, 9)", IndexOutOfBoundsException.class, () -> x.group(bad, 9, 9));
        }
        CHECKS.throwing("group(2, 2, 0)", NoSuchElementException.class, () -> x.group(2, 2, 0));
        CHECKS.throwing("group(0, 0, 0)", NoSuchElementException.class, () -> x.group(0, 0, 0));
        CHECKS.throwing("group(3, 0, 0)", IndexOutOfBoundsException.class, () -> x.group(3, 0, 0));
        PointLedger y = gone();
        CHECKS.throwing("group(2, 0, 0) down", IllegalStateException.class, () -> y.group(2, 0, 0));
        CHECKS.throwing("group(3, 9, 9) down", IllegalStateException.class, () -> y.group(3, 9, 9));
    }

    private static void looks() {
        PointLedger x = filled();
        x.aggCount(2, 2, 8);
        int[] due = {7 * 4 + 10 + 31 + 1 + 3 * 4, 3, 3, 10, 4, 2, 0, PointLedger.NONE, 0};
        for (int what = 0; what < due.length; what++) {
            CHECKS.same("look(" + what + ")", x.look(what), due[what]);
        }
        for (int what : new int[] {-1, 9, Integer.MIN_VALUE, Integer.MAX_VALUE}) {
            CHECKS.same("look(" + what + ")", x.look(what), PointLedger.NONE);
        }
        x.crashAfter(7);
        CHECKS.same("look(7) of power that goes", x.look(7), 7);
        x.append(1, 0, 0);
        CHECKS.same("look(7) behind four writes", x.look(7), 3);
        x.recover();
        x.recover();
        CHECKS.same("look(8)", x.look(8), 2);
        x.expire(5);
        CHECKS.same("look(2) behind expire()", x.look(2), 2);
        CHECKS.same("look(3) behind expire()", x.look(3), 6);
    }
}
