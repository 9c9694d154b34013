import java.util.Arrays;

/** Term 3, for promises 3, 4 and 15: the BITS of a CHUNK, told here by hand, and what is read from them. */
public final class PackingTest {
    private static final Checks CHECKS = new Checks();

    public static void main(String[] args) {
        changesOfRise();
        differencesOfValues();
        greatestAndLeast();
        cellsAreFilledToTheirEnd();
        aMergedChunkIsMadeAnew();
        CHECKS.done();
    }

    private static void changesOfRise() {
        // The second point's rise is 3,000, so that E of the third one may go down to -2,999.
        String first = "1111 1000000000000000000000101110111000 0";
        change(first, 0, "0");
        change(first, 1, "10 1000001");
        change(first, -1, "10 0111111");
        change(first, 63, "10 1111111");
        change(first, -64, "10 0000000");
        change(first, 64, "110 101000000");
        change(first, -65, "110 010111111");
        change(first, 255, "110 111111111");
        change(first, -256, "110 000000000");
        change(first, 256, "1110 100100000000");
        change(first, -257, "1110 011011111111");
        change(first, 2047, "1110 111111111111");
        change(first, -2048, "1110 000000000000");
        change(first, 2048, "1111 1000000000000000000000100000000000");
        change(first, -2049, "1111 0111111111111111111111011111111111");
        change(first, -2999, "1111 0111111111111111111111010001001001");
    }

    private static void change(String first, int e, String bits) {
        int[] times = {-500, 2500, 5500 + e};
        int[] values = {4, 4, 4};
        packs("E " + e, times, values, first + bits + "0");
    }

    private static void differencesOfValues() {
        difference(0, 0, "0");
        difference(0, 1, "1 0010 0");
        difference(0, -1, "1 0001 0");
        difference(0, 7, "1 1110 0");
        difference(0, -8, "1 1111 0");
        difference(0, 8, "1 0000 1 0001 0");
        difference(0, -9, "1 0001 1 0001 0");
        difference(5, 133, "1 0000 1 0000 1 0001 0");
        difference(0, 0x40000000, "1 0000 1 0000 1 0000 1 0000 1 0000 1 0000 1 0000 1 1000 0");
        difference(0, Integer.MAX_VALUE, "1 1110 1 1111 1 1111 1 1111 1 1111 1 1111 1 1111 1 1111 0");
        difference(0, Integer.MIN_VALUE, "1 1111 1 1111 1 1111 1 1111 1 1111 1 1111 1 1111 1 1111 0");
        difference(Integer.MAX_VALUE, Integer.MIN_VALUE, "1 0010 0");
        difference(Integer.MIN_VALUE, Integer.MAX_VALUE, "1 0001 0");
        difference(Integer.MIN_VALUE, 0, "1 1111 1 1111 1 1111 1 1111 1 1111 1 1111 1 1111 1 1111 0");
    }

    private static void difference(int from, int to, String bits) {
        packs("value " + from + " to " + to, new int[] {0, 1}, new int[] {from, to}, "10 1000001" + bits);
    }

    private static void greatestAndLeast() {
        int[] times = {Integer.MIN_VALUE, Integer.MAX_VALUE - 1, Integer.MAX_VALUE};
        packs("the greatest rise", times, new int[] {1, 1, 1},
                "1111 1011111111111111111111111111111110 0" + "1111 0100000000000000000000000000000011 0");
        packs("the greatest change", new int[] {Integer.MIN_VALUE, Integer.MAX_VALUE}, new int[] {1, 1},
                "1111 1011111111111111111111111111111111 0");
        packs("a change up", new int[] {Integer.MIN_VALUE, Integer.MIN_VALUE + 1, Integer.MAX_VALUE},
                new int[] {1, 1, 1}, "10 1000001 0" + "1111 1011111111111111111111111111111101 0");
        packs("one point", new int[] {-9}, new int[] {-8}, "");
    }

    private static void cellsAreFilledToTheirEnd() {
        // The second point takes 10 bits, each further one two.
        int[] times = new int[13];
        for (int p = 0; p < times.length; p++) {
            times[p] = 5 * p;
        }
        String bits = "10 1000101 0" + "00".repeat(11);
        packs("a cell filled to its end", times, new int[13], bits);
        int[] more = Arrays.copyOf(times, 14);
        more[13] = 65;
        packs("a cell more", more, new int[14], bits + "00");
    }

    private static void aMergedChunkIsMadeAnew() {
        PointLedger x = new PointLedger(1, 8, 2);
        x.append(0, 0, 1);
        x.append(0, 10, 1);
        x.flush();
        x.append(0, 20, 1);
        x.append(0, 30, 2);
        x.flush();
        CHECKS.same("compact(0)", x.compact(0), 1);
        cells("merged", x, x.chunk(0, 0, 5), x.chunk(0, 0, 6), new int[] {0, 1}, "10 1001010 0 00 0 1 0010 0");
    }

    private static void packs(String what, int[] times, int[] values, String bits) {
        PointLedger x = new PointLedger(1, 64, 2);
        for (int p = 0; p < times.length; p++) {
            CHECKS.same(what + ": append " + p, x.append(0, times[p], values[p]), 0);
        }
        CHECKS.same(what + ": flush()", x.flush(), 1);
        cells(what, x, x.chunk(0, 0, 5), x.chunk(0, 0, 6), new int[] {times[0], values[0]}, bits);
        CHECKS.same(what + ": recover()", x.recover(), times.length);
        x.seek(0, Integer.MIN_VALUE, Integer.MAX_VALUE);
        for (int p = 0; p < times.length; p++) {
            CHECKS.yes(what + ": next()", x.next());
            CHECKS.same(what + ": time " + p, x.curTime(), times[p]);
            CHECKS.same(what + ": value " + p, x.curVal(), values[p]);
        }
        CHECKS.no(what + ": next() behind", x.next());
    }

    private static void cells(String what, PointLedger x, int place, int length, int[] first, String told) {
        String bits = told.replace(" ", "");
        int bitCells = (bits.length() + 31) / 32;
        CHECKS.same(what + ": length", length, 2 + bitCells);
        CHECKS.cells(what, x, place, first);
        String filled = bits + "0".repeat(32 * bitCells - bits.length());
        for (int c = 0; c < bitCells; c++) {
            int due = Integer.parseUnsignedInt(filled.substring(32 * c, 32 * c + 32), 2);
            CHECKS.same(what + ": cell " + c + " of bits", x.cell(place + 2 + c), due);
        }
    }
}
