/** Term 1: POINTS, SERIES, CHUNKS, HEADS, GROUPS. */
public final class Term1PointsTest {
    private static final int LEAST = Scenes.LEAST;
    private static final int GREATEST = Scenes.GREATEST;
    private static final Checks CHECKS = new Checks();

    public static void main(String[] args) {
        seriesHaveTheNumbersZeroToNLessOne();
        timesRiseNoneTwice();
        earlierOnesLieInChunks();
        chunksAreNumberedByTime();
        chunksHaveOneToMostPoints();
        groupsAreOfOneSeries();
        CHECKS.done();
    }

    private static void seriesHaveTheNumbersZeroToNLessOne() {
        CHECKS.term(1, 2, "SERIES have the numbers 0 to N - 1");
        for (int n : new int[] {1, 2, 5, 8}) {
            Ledger x = new Ledger(n, 2, 2);
            for (int s : new int[] {0, n - 1}) {
                x.append(s, 1, 7);
                CHECKS.same("sizes(" + s + ", 1) of " + n, x.sizes(s, 1), 1);
            }
            x.flush();
            for (int s : new int[] {0, n - 1}) {
                CHECKS.same("compact(" + s + ") of " + n, x.compact(s), 0);
                CHECKS.same("seek(" + s + ") of " + n, x.seek(s, 0, 9), 1);
                CHECKS.same("aggCount(" + s + ") of " + n, x.aggCount(s, 0, 9), 1);
                CHECKS.same("aggMin(" + s + ") of " + n, x.aggMin(s, 0, 9), 7);
                CHECKS.same("aggMax(" + s + ") of " + n, x.aggMax(s, 0, 9), 7);
                CHECKS.same("aggSum(" + s + ") of " + n, x.aggSum(s, 0, 9), 7);
                CHECKS.same("chunk(" + s + ") of " + n, x.chunk(s, 0, 2), 1);
                CHECKS.same("group(" + s + ") of " + n, x.group(s, 0, 2), 1);
            }
            for (int bad : new int[] {-1, n, n + 1, LEAST, GREATEST}) {
                hasNoSeries(x, bad);
            }
        }
    }

    private static void hasNoSeries(Ledger x, int bad) {
        Class<IndexOutOfBoundsException> thrown = IndexOutOfBoundsException.class;
        CHECKS.same("append(" + bad + ")", x.append(bad, 50, 0), PointLedger.BAD_SERIES);
        CHECKS.same("compact(" + bad + ")", x.compact(bad), PointLedger.BAD_SERIES);
        CHECKS.same("seek(" + bad + ")", x.seek(bad, 0, 9), PointLedger.BAD_SERIES);
        CHECKS.same("aggCount(" + bad + ")", x.aggCount(bad, 0, 9), PointLedger.BAD_SERIES);
        CHECKS.throwing("aggMin(" + bad + ")", thrown, () -> x.aggMin(bad, 0, 9));
        CHECKS.throwing("aggMax(" + bad + ")", thrown, () -> x.aggMax(bad, 0, 9));
        CHECKS.throwing("aggSum(" + bad + ")", thrown, () -> x.aggSum(bad, 0, 9));
        CHECKS.throwing("sizes(" + bad + ")", thrown, () -> x.sizes(bad, 0));
        CHECKS.throwing("chunk(" + bad + ")", thrown, () -> x.chunk(bad, 0, 0));
        CHECKS.throwing("group(" + bad + ")", thrown, () -> x.group(bad, 0, 0));
    }

    private static void timesRiseNoneTwice() {
        CHECKS.term(1, 2, "The POINTS of a SERIES have rising TIMES, none twice");
        Ledger x = new Ledger(1, 2, 2);
        int[] times = {5, 5, 4, 6, 6, 7, 3, 9, 8, 9, 10};
        int came = 0;
        for (int time : times) {
            came += x.append(0, time, time) == 0 ? 1 : 0;
        }
        CHECKS.same("points that came", came, 5);
        x.seek(0, LEAST, GREATEST);
        for (int time : new int[] {5, 6, 7, 9, 10}) {
            x.next();
            CHECKS.same("curTime()", x.curTime(), time);
        }
        CHECKS.no("next() behind them", x.next());
    }

    private static void earlierOnesLieInChunks() {
        CHECKS.term(1, 3, "The earlier ones lie in CHUNKS, the later ones in the HEAD");
        Ledger x = Scenes.filled();
        CHECKS.same("points in chunks", x.group(1, 0, 2) + x.group(1, 1, 2) + x.group(1, 2, 2), 9);
        CHECKS.same("the last one in a chunk", x.chunk(1, 4, 1), 80);
        CHECKS.same("points in the head", x.sizes(1, 1), 2);
        CHECKS.same("points in all", x.aggCount(1, LEAST, GREATEST), 11);
    }

    private static void chunksAreNumberedByTime() {
        CHECKS.term(1, 18, "CHUNKS, numbered from 0 on by TIME");
        Ledger x = Scenes.filled();
        x.flush();
        for (int k = 0; k < 5; k++) {
            CHECKS.same("chunk(1, " + k + ", 0)", x.chunk(1, k, 0), 20 * k);
        }
        x.expire(31);
        for (int k = 0; k < 3; k++) {
            CHECKS.same("chunk(1, " + k + ", 0) then", x.chunk(1, k, 0), 40 + 20 * k);
        }
        // The place of the later chunk is that of the first one, which has gone.
        x.append(1, 200, 1);
        x.append(1, 210, 1);
        x.flush();
        CHECKS.same("place of the last one", x.chunk(1, 4, 5), 2437);
        CHECKS.same("time of the last one", x.chunk(1, 4, 0), 200);
        CHECKS.same("time of the first one", x.chunk(1, 0, 0), 40);
    }

    private static void chunksHaveOneToMostPoints() {
        CHECKS.term(1, 3, "each of 1 to MOST POINTS");
        for (int most : new int[] {2, 64}) {
            Ledger x = new Ledger(2, most, 2);
            x.append(1, 0, 9);
            for (int t = 0; t < most; t++) {
                x.append(0, t, t);
            }
            CHECKS.same("flush() by " + most, x.flush(), 2);
            CHECKS.same("the most", x.chunk(0, 0, 2), most);
            CHECKS.same("one", x.chunk(1, 0, 2), 1);
            CHECKS.same("one has two cells", x.chunk(1, 0, 6), 2);
        }
    }

    private static void groupsAreOfOneSeries() {
        CHECKS.term(1, 17, "RATIO CHUNKS one behind the other are a GROUP of a SERIES");
        Ledger x = new Ledger(3, 2, 4);
        for (int s = 0; s < 3; s++) {
            for (int t = 0; t < 6; t++) {
                x.append(s, t, 0);
            }
        }
        x.flush();
        for (int s = 0; s < 3; s++) {
            CHECKS.same("groups of " + s, x.sizes(s, 2), 1);
            CHECKS.same("chunks of the group of " + s, x.group(s, 0, 5), 3);
        }
    }
}
