import java.util.Arrays;

/** Term 3: a CHUNK's CELLS, whose bits are told here by hand, and what is read from them. */
public final class Term3PackingTest {
    private static final int LEAST = Scenes.LEAST;
    private static final int GREATEST = Scenes.GREATEST;
    private static final Checks CHECKS = new Checks();

    public static void main(String[] args) {
        oneHasNoBits();
        changesOfRise();
        theFirstRiseIsLessZero();
        differencesOfValues();
        differencesThatWrap();
        greatestAndLeast();
        cellsAreFilledToTheirEnd();
        numbersBeginAtEachBitOfACell();
        whatIsLeftOfTheLastCellIsZero();
        aMergedChunkIsMadeAnew();
        CHECKS.done();
    }

    private static void oneHasNoBits() {
        CHECKS.term(3, 3, "The first one is the first POINT's TIME, the second one its VALUE");
        packs("one point", new int[] {-9}, new int[] {-8}, "");
        packs("one point at the ends of ints", new int[] {LEAST}, new int[] {GREATEST}, "");
        packs("one point at the other ends", new int[] {GREATEST}, new int[] {LEAST}, "");
    }

    private static void changesOfRise() {
        CHECKS.term(3, 3, "BITS tell E: 0; + 64 in 7 bits; + 256 in 9 bits; + 2,048 in 12 bits; + 8,589,934,592 in 34 bits");
        // The second point's rise is 3,000, so that E of the third one may go down to -2,999.
        String first = "1111 1000000000000000000000101110111000 0";
        change(first, 0, "0");
        change(first, 1, "10 1000001");
        change(first, -1, "10 0111111");
        change(first, 63, "10 1111111");
        change(first, -64, "10 0000000");
        change(first, 64, "110 101000000");
        change(first, -65, "110 010111111");
        change(first, 255, "110 111111111");
        change(first, -256, "110 000000000");
        change(first, 256, "1110 100100000000");
        change(first, -257, "1110 011011111111");
        change(first, 2047, "1110 111111111111");
        change(first, -2048, "1110 000000000000");
        change(first, 2048, "1111 1000000000000000000000100000000000");
        change(first, -2049, "1111 0111111111111111111111011111111111");
        change(first, -2999, "1111 0111111111111111111111010001001001");
    }

    private static void change(String first, int e, String bits) {
        int[] times = {-500, 2500, 5500 + e};
        int[] values = {4, 4, 4};
        packs("E " + e, times, values, first + bits + "0");
    }

    private static void theFirstRiseIsLessZero() {
        CHECKS.term(3, 3, "less the like number of the POINT ahead (0 for the first one)");
        int[] none = {0, 0};
        packs("rise 1", new int[] {7, 8}, none, "10 1000001 0");
        packs("rise 63", new int[] {7, 70}, none, "10 1111111 0");
        packs("rise 64", new int[] {7, 71}, none, "110 101000000 0");
        packs("rise 255", new int[] {7, 262}, none, "110 111111111 0");
        packs("rise 256", new int[] {7, 263}, none, "1110 100100000000 0");
        packs("rise 2,047", new int[] {7, 2054}, none, "1110 111111111111 0");
        packs("rise 2,048", new int[] {7, 2055}, none, "1111 1000000000000000000000100000000000 0");
        packs("rises 5, 5, 6, 5, 5", new int[] {0, 5, 10, 16, 21, 26}, new int[6],
                "10 1000101 0 00 10 1000001 0 10 0111111 0 00");
    }

    private static void differencesOfValues() {
        CHECKS.term(3, 3, "as long as Z is not 0: a 1 and the lowest four bits of Z, which go from it; at last a 0");
        difference(0, 0, "0");
        difference(0, 1, "1 0010 0");
        difference(0, -1, "1 0001 0");
        difference(0, 7, "1 1110 0");
        difference(0, -8, "1 1111 0");
        difference(0, 8, "1 0000 1 0001 0");
        difference(0, -9, "1 0001 1 0001 0");
        difference(5, 133, "1 0000 1 0000 1 0001 0");
        difference(0, 127, "1 1110 1 1111 0");
        difference(0, -128, "1 1111 1 1111 0");
        difference(0, 1 << 26, "1 0000 1 0000 1 0000 1 0000 1 0000 1 0000 1 1000 0");
        difference(0, 1 << 27, "1 0000 1 0000 1 0000 1 0000 1 0000 1 0000 1 0000 1 0001 0");
        difference(0, 0x40000000, "1 0000 1 0000 1 0000 1 0000 1 0000 1 0000 1 0000 1 1000 0");
        difference(0, GREATEST, "1 1110 1 1111 1 1111 1 1111 1 1111 1 1111 1 1111 1 1111 0");
        difference(0, LEAST, "1 1111 1 1111 1 1111 1 1111 1 1111 1 1111 1 1111 1 1111 0");
    }

    private static void differencesThatWrap() {
        CHECKS.term(3, 3, "D is VALUE less that of the POINT ahead, as an int (which wraps)");
        difference(GREATEST, LEAST, "1 0010 0");
        difference(LEAST, GREATEST, "1 0001 0");
        difference(LEAST, 0, "1 1111 1 1111 1 1111 1 1111 1 1111 1 1111 1 1111 1 1111 0");
        difference(-2, GREATEST, "1 1101 1 1111 1 1111 1 1111 1 1111 1 1111 1 1111 1 1111 0");
        difference(1 << 30, LEAST + (1 << 30), "1 1111 1 1111 1 1111 1 1111 1 1111 1 1111 1 1111 1 1111 0");
        difference(2, LEAST, "1 1100 1 1111 1 1111 1 1111 1 1111 1 1111 1 1111 1 1111 0");
    }

    private static void difference(int from, int to, String bits) {
        packs("value " + from + " to " + to, new int[] {0, 1}, new int[] {from, to}, "10 1000001" + bits);
    }

    private static void greatestAndLeast() {
        CHECKS.term(3, 3, "by how much its TIME is above that of the one ahead of it, exactly");
        packs("the greatest rise", new int[] {LEAST, GREATEST}, new int[] {1, 1},
                "1111 1011111111111111111111111111111111 0");
        packs("the least change", new int[] {LEAST, GREATEST - 1, GREATEST}, new int[] {1, 1, 1},
                "1111 1011111111111111111111111111111110 0" + "1111 0100000000000000000000000000000011 0");
        packs("the greatest change", new int[] {LEAST, LEAST + 1, GREATEST}, new int[] {1, 1, 1},
                "10 1000001 0" + "1111 1011111111111111111111111111111101 0");
        packs("a rise beyond ints", new int[] {LEAST, 0, GREATEST}, new int[] {1, 1, 1},
                "1111 1010000000000000000000000000000000 0" + "10 0111111 0");
    }

    private static void cellsAreFilledToTheirEnd() {
        CHECKS.term(3, 3, "Behind them stand BITS, in each CELL from the highest one down");
        // The second point takes 10 bits, each further one two.
        int[] times = new int[13];
        for (int p = 0; p < times.length; p++) {
            times[p] = 5 * p;
        }
        String bits = "10 1000101 0" + "00".repeat(11);
        packs("a cell filled to its end", times, new int[13], bits);
        int[] more = Arrays.copyOf(times, 14);
        more[13] = 65;
        packs("a cell more", more, new int[14], bits + "00");
        int[] last = Arrays.copyOf(times, 13);
        last[12] = 61;
        packs("numbers across two cells", last, new int[13], "10 1000101 0" + "00".repeat(10) + "10 1000001 0");
    }

    private static void numbersBeginAtEachBitOfACell() {
        CHECKS.term(3, 3, "BITS, in each CELL from the highest one down, whichever bit of it a number begins at");
        int[] changes = {-3, 100, 1000, 1_000_000, -3000};
        String[] told = {"10 0111101", "110 101100100", "1110 101111101000", "1111" + wide(1_000_000), "1111" + wide(-3000)};
        for (int pairs = 0; pairs < 16; pairs++) {
            for (int c = 0; c < changes.length; c++) {
                begins(pairs, false, changes[c], told[c]);
                begins(pairs, true, changes[c], told[c]);
            }
        }
    }

    /** The change stands behind 39 bits, so many pairs, and seven more if that is told; a pair stands behind it. */
    private static void begins(int pairs, boolean sevenMore, int change, String told) {
        int rise = 5000;
        int points = 2 + pairs + (sevenMore ? 1 : 0);
        int[] times = new int[points + 2];
        int[] values = new int[points + 2];
        for (int p = 1; p < points; p++) {
            times[p] = times[p - 1] + rise;
        }
        values[points - 1] = sevenMore ? 1 : 0;
        for (int p = points; p < points + 2; p++) {
            times[p] = times[p - 1] + rise + change;
            values[p] = values[points - 1] + LEAST;
        }
        String ahead = "1111" + wide(rise) + "0" + "00".repeat(pairs) + (sevenMore ? "0 1 0010 0" : "");
        String value = "1 1111 1 1111 1 1111 1 1111 1 1111 1 1111 1 1111 1 1111 0";
        packs("E " + change + " behind " + points + " points", times, values, ahead + told + value + "00");
    }

    private static String wide(int change) {
        String bits = Long.toBinaryString(change + 8_589_934_592L);
        return "0".repeat(34 - bits.length()) + bits;
    }

    private static void whatIsLeftOfTheLastCellIsZero() {
        CHECKS.term(3, 3, "what is left of the last CELL is 0, whatever stood there");
        Ledger x = new Ledger(1, 8, 2);
        x.append(0, LEAST, 0);
        x.append(0, LEAST + 9_000_000, LEAST);
        x.append(0, LEAST + 12_000_000, -1);
        x.append(0, LEAST + 21_000_000, LEAST);
        x.flush();
        CHECKS.yes("bits stand there", (x.cell(2437) & 0xFFFF) != 0 && x.cell(2438) != 0 && x.cell(2439) != 0);
        x.expire(0);
        x.append(0, 5, 6);
        x.append(0, 6, 6);
        x.flush();
        cells("over it", x, x.chunk(0, 0, 5), x.chunk(0, 0, 6), new int[] {5, 6}, "10 1000001 0");
        CHECKS.same("place", x.chunk(0, 0, 5), 2435);
        // A chunk that is read again must not take what stands behind it for its own.
        x.recover();
        CHECKS.same("its points", x.aggSum(0, 6, 6), 6);
        x.append(0, 7, 1);
        x.flush();
        CHECKS.same("compact(0)", x.compact(0), 1);
        cells("joined", x, x.chunk(0, 0, 5), x.chunk(0, 0, 6), new int[] {5, 6}, "10 1000001 0 0 1 1001 0");
    }

    private static void aMergedChunkIsMadeAnew() {
        CHECKS.term(3, 4, "For each further POINT, of a CHUNK that took in others too");
        Ledger x = new Ledger(1, 8, 2);
        x.append(0, 0, 1);
        x.append(0, 10, 1);
        x.flush();
        x.append(0, 20, 1);
        x.append(0, 30, 2);
        x.flush();
        CHECKS.same("compact(0)", x.compact(0), 1);
        cells("merged", x, x.chunk(0, 0, 5), x.chunk(0, 0, 6), new int[] {0, 1}, "10 1001010 0 00 0 1 0010 0");
    }

    private static void packs(String what, int[] times, int[] values, String bits) {
        Ledger x = new Ledger(1, 64, 2);
        for (int p = 0; p < times.length; p++) {
            CHECKS.same(what + ": append " + p, x.append(0, times[p], values[p]), 0);
        }
        CHECKS.same(what + ": flush()", x.flush(), 1);
        cells(what, x, x.chunk(0, 0, 5), x.chunk(0, 0, 6), new int[] {times[0], values[0]}, bits);
        CHECKS.same(what + ": recover()", x.recover(), times.length);
        x.seek(0, LEAST, GREATEST);
        for (int p = 0; p < times.length; p++) {
            CHECKS.yes(what + ": next()", x.next());
            CHECKS.same(what + ": time " + p, x.curTime(), times[p]);
            CHECKS.same(what + ": value " + p, x.curVal(), values[p]);
        }
        CHECKS.no(what + ": next() behind", x.next());
    }

    private static void cells(String what, Ledger x, int place, int length, int[] first, String told) {
        String bits = told.replace(" ", "");
        int bitCells = (bits.length() + 31) / 32;
        CHECKS.same(what + ": length", length, 2 + bitCells);
        CHECKS.cells(what, x, place, first);
        String filled = bits + "0".repeat(32 * bitCells - bits.length());
        for (int c = 0; c < bitCells; c++) {
            int due = Integer.parseUnsignedInt(filled.substring(32 * c, 32 * c + 32), 2);
            CHECKS.same(what + ": cell " + c + " of bits", x.cell(place + 2 + c), due);
        }
    }
}
