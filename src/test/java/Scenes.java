import java.util.Arrays;

/** What several tests begin with. */
final class Scenes {
    static final int LEAST = Integer.MIN_VALUE;
    static final int GREATEST = Integer.MAX_VALUE;

    /** Numbers that are no SERIES where there are two. */
    static final int[] NO_SERIES_OF_TWO = {-1, 2, 3, 8, LEAST, GREATEST};

    private static final int BLOCKS = 128;

    private Scenes() {
    }

    /**
     * Series 1: chunks {0, 10} {20, 30} {40, 50} {60, 70} {80}, head {90, 100}; a value is 1,000 less its time. Series 0:
     * chunk {35: 5}, head {95: 6}.
     */
    static Ledger filled() {
        Ledger x = new Ledger(2, 2, 2);
        for (int t = 0; t <= 80; t += 10) {
            x.append(1, t, 1000 - t);
        }
        x.append(0, 35, 5);
        x.flush();
        x.append(1, 90, 910);
        x.append(0, 95, 6);
        x.append(1, 100, 900);
        return x;
    }

    /** As filled(), but power went ahead of the first write of a flush(). */
    static Ledger down() {
        Ledger x = filled();
        x.crashAfter(0);
        x.flush();
        return x;
    }

    /** Two series by turns have all 128 blocks: times 0 to 63 each. */
    static Ledger fullLog() {
        Ledger x = new Ledger(2, 4, 2);
        for (int b = 0; b < BLOCKS; b++) {
            x.append(b % 2, b / 2, b);
        }
        return x;
    }

    /** Series 0 alone has all 128 blocks: times 0 to 127. */
    static Ledger fullHead() {
        Ledger x = new Ledger(1, 64, 2);
        for (int t = 0; t < BLOCKS; t++) {
            x.append(0, t, ofFullHead(t));
        }
        return x;
    }

    /** The value at a time of fullHead(): the later, the farther from 0, above it and below it by turns. */
    static int ofFullHead(int time) {
        return time % 2 == 0 ? 100 * time + 7 : -100 * time - 7;
    }

    /** Series 0 has so many chunks of two points each, times from 0 on; a value is three times its time. */
    static Ledger chunks(int count) {
        Ledger x = new Ledger(2, 2, 2);
        for (int t = 0; t < 2 * count; t++) {
            if (t > 0 && t % BLOCKS == 0) {
                x.flush();
            }
            x.append(0, t, 3 * t);
        }
        x.flush();
        return x;
    }

    /** Points of series 0 one time apart, values ten times their times, sealed at once. */
    static void seal(Ledger x, int series, int from, int points) {
        for (int t = from; t < from + points; t++) {
            x.append(series, t, 10 * t);
        }
        x.flush();
    }

    /** As seal(), of one point after another so many, each in a chunk of its own or with those that it came with. */
    static void sealEach(Ledger x, int series, int... sizes) {
        int from = 0;
        for (int size : sizes) {
            seal(x, series, from, size);
            from += size;
        }
    }

    /** Points of series 0 that take the most bits there are, 79 each, sealed by so many at once. */
    static void sealWide(Ledger x, int... sizes) {
        int time = LEAST;
        int value = 0;
        boolean far = true;
        for (int size : sizes) {
            for (int k = 0; k < size; k++) {
                time += far ? 9_000_000 : 3_000_000;
                value += LEAST;
                far = !far;
                x.append(0, time, value);
            }
            x.flush();
        }
    }

    /** Appends points from a time on whose chunk takes just so many cells, three at least, and tells how many these are. */
    static int appendCells(Ledger x, int series, int from, int cells) {
        int mostBits = 32 * (cells - 2);
        int bits = 0;
        int time = from;
        int value = 0;
        int rise = 1;
        int points = 1;
        x.append(series, time, value);
        for (; bits + 79 <= mostBits; bits += 79) {
            rise = rise == 9_000_000 ? 3_000_000 : 9_000_000;
            time += rise;
            value += LEAST;
            points++;
            x.append(series, time, value);
        }
        while (bits <= mostBits - 32) {
            // The rise stays, which takes a bit (nine at first); the value takes one bit and five for each four of its own.
            int ahead = points == 1 ? 10 : 2;
            int fours = Math.min(8, (mostBits - bits - ahead) / 5);
            bits += ahead + 5 * fours;
            time += rise;
            value += fours == 0 ? 0 : 1 << (4 * (fours - 1));
            points++;
            x.append(series, time, value);
        }
        return points;
    }

    /**
     * Of three series, with chunks of up to 64 points: series 0 has six joined chunks and one of 59 cells, series 1 has 13
     * of one point each. What was joined left 12 holes of 59 cells, from cell 2435 on by 61 each; from cell 3942 on all 154
     * cells up to the end of the disk are free.
     */
    static Ledger holes() {
        Ledger x = new Ledger(3, 64, 2);
        int time = LEAST;
        for (int round = 0; round < 13; round++) {
            for (int k = 0; k < 24; k++) {
                time += k % 2 == 0 ? 9_000_000 : 3_000_000;
                x.append(0, time, k % 2 == 0 ? LEAST : 0);
            }
            x.append(1, round, round);
            x.flush();
        }
        x.compact(0);
        return x;
    }

    static int cellsOfWide(int points) {
        return 2 + ((points - 1) * 79 + 31) / 32;
    }

    /** So many chunks of 24 wide points; there is no place for all of what they could be joined to. */
    static Ledger crowded() {
        Ledger x = new Ledger(1, 64, 2);
        int[] sizes = new int[16];
        Arrays.fill(sizes, 24);
        sealWide(x, sizes);
        return x;
    }
}
