/** Promise 13: aggSum. */
public final class Promise13AggSumTest {
    private static final int LEAST = Scenes.LEAST;
    private static final int GREATEST = Scenes.GREATEST;
    private static final Checks CHECKS = new Checks();

    public static void main(String[] args) {
        theSumOfTheirValues();
        ofAFullHead();
        beyondInts();
        ofGroupsBeyondInts();
        zeroIfThereAreNone();
        zeroBehindOneThatHadSome();
        theStoreIsDown();
        thereIsNoSuchSeries();
        refusedCallsChangeNothing();
        CHECKS.done();
    }

    private static void theSumOfTheirValues() {
        CHECKS.promise(13, "The sum of their VALUES");
        for (int from = -5; from <= 105; from += 5) {
            Ledger x = Scenes.filled();
            for (int to = -5; to <= 105; to += 5) {
                long due = 0;
                for (int t = 0; t <= 100; t += 10) {
                    due += t >= from && t <= to ? 1000 - t : 0;
                }
                CHECKS.same("aggSum(1, " + from + ", " + to + ")", x.aggSum(1, from, to), due);
            }
        }
        CHECKS.same("aggSum(0, MIN, MAX)", Scenes.filled().aggSum(0, LEAST, GREATEST), 11);
    }

    private static void ofAFullHead() {
        CHECKS.promise(13, "The sum of their VALUES, in a HEAD of 128");
        Ledger x = Scenes.fullHead();
        long all = 0;
        for (int t = 0; t < 128; t++) {
            all += Scenes.ofFullHead(t);
        }
        long below = 0;
        for (int t = 0; t < 128; t++) {
            CHECKS.same("from " + t, x.aggSum(0, t, GREATEST), all - below);
            below += Scenes.ofFullHead(t);
            CHECKS.same("up to " + t, x.aggSum(0, LEAST, t), below);
        }
    }

    private static void beyondInts() {
        CHECKS.promise(13, "The sum of their VALUES, a long");
        Ledger x = new Ledger(2, 4, 2);
        for (int t = 0; t < 9; t++) {
            x.append(0, t, GREATEST);
            x.append(1, t, LEAST);
        }
        for (int round = 0; round < 3; round++) {
            CHECKS.same("up", x.aggSum(0, 0, 8), 9L * GREATEST);
            CHECKS.same("down", x.aggSum(1, 0, 8), 9L * LEAST);
            CHECKS.same("a part up", x.aggSum(0, 1, 5), 5L * GREATEST);
            CHECKS.same("a part down", x.aggSum(1, 1, 5), 5L * LEAST);
            x.flush();
            x.recover();
        }
        CHECKS.same("the higher 32 bits up", x.cell(962 + 1 + 6), (4L * GREATEST) >> 32);
        CHECKS.same("the lower 32 bits up", x.cell(962 + 1 + 7), (int) (4L * GREATEST));
        CHECKS.same("the higher 32 bits down", x.cell(962 + 31 + 6), (4L * LEAST) >> 32);
        CHECKS.same("the lower 32 bits down", x.cell(962 + 31 + 7), (int) (4L * LEAST));
    }

    private static void ofGroupsBeyondInts() {
        CHECKS.promise(13, "The sum of their VALUES, a long, put together from its higher and lower 32 bits");
        int[][] values = {{-1, 0}, {LEAST, -1}, {GREATEST, 1}, {GREATEST, GREATEST}, {LEAST, LEAST}, {-1, -1}, {1 << 30, 1 << 30}};
        for (int[] pair : values) {
            Ledger x = new Ledger(1, 2, 2);
            x.append(0, 0, pair[0]);
            x.append(0, 1, pair[1]);
            x.append(0, 2, pair[0]);
            x.append(0, 3, pair[1]);
            x.append(0, 4, pair[1]);
            x.flush();
            long one = (long) pair[0] + pair[1];
            String what = " of " + pair[0] + " and " + pair[1];
            CHECKS.same("an entry" + what, x.aggSum(0, 0, 1), one);
            CHECKS.same("a group" + what, x.aggSum(0, 0, 3), 2 * one);
            CHECKS.same("two groups" + what, x.aggSum(0, 0, 4), 2 * one + pair[1]);
            CHECKS.same("a part" + what, x.aggSum(0, 1, 2), one);
        }
    }

    private static void zeroIfThereAreNone() {
        CHECKS.promise(13, "The sum of their VALUES, where there are none");
        CHECKS.same("of a new one", new Ledger(1, 2, 2).aggSum(0, LEAST, GREATEST), 0);
        Ledger x = Scenes.filled();
        int[][] ranges = {{-9, -1}, {1, 9}, {11, 19}, {81, 89}, {101, GREATEST}, {30, 20}, {25, 24}, {GREATEST, LEAST}};
        for (int[] range : ranges) {
            CHECKS.same("from " + range[0] + " to " + range[1], x.aggSum(1, range[0], range[1]), 0);
        }
        x.flush();
        x.expire(GREATEST);
        CHECKS.same("when all has gone", x.aggSum(1, LEAST, GREATEST), 0);
    }

    private static void zeroBehindOneThatHadSome() {
        CHECKS.promise(13, "The sum of their VALUES, where there are none, whatever was answered ahead of it");
        Ledger x = Scenes.filled();
        for (int[] range : new int[][] {{-9, -1}, {11, 19}, {81, 89}, {101, GREATEST}, {30, 20}, {GREATEST, LEAST}}) {
            CHECKS.same("of all ahead of it", x.aggSum(1, LEAST, GREATEST), 11 * 1000 - 550);
            CHECKS.same("from " + range[0] + " to " + range[1], x.aggSum(1, range[0], range[1]), 0);
        }
    }

    private static void theStoreIsDown() {
        CHECKS.promise(13, "Exceptions likewise: IllegalStateException: the store is DOWN");
        Ledger x = Scenes.down();
        for (int s : new int[] {0, 1, 2, -1, LEAST, GREATEST}) {
            CHECKS.throwing("aggSum(" + s + ", 0, 100)", IllegalStateException.class, () -> x.aggSum(s, 0, 100));
            CHECKS.throwing("aggSum(" + s + ", 1, 0)", IllegalStateException.class, () -> x.aggSum(s, 1, 0));
        }
        x.recover();
        CHECKS.same("with power", x.aggSum(1, 10, 20), 1970);
    }

    private static void thereIsNoSuchSeries() {
        CHECKS.promise(13, "Exceptions likewise: IndexOutOfBoundsException: there is no such SERIES");
        Ledger x = Scenes.filled();
        for (int bad : Scenes.NO_SERIES_OF_TWO) {
            CHECKS.throwing("aggSum(" + bad + ")", IndexOutOfBoundsException.class, () -> x.aggSum(bad, 0, 100));
            CHECKS.throwing("aggSum(" + bad + ")", IndexOutOfBoundsException.class, () -> x.aggSum(bad, 1, 0));
        }
    }

    private static Ledger walking() {
        Ledger x = Scenes.filled();
        x.seek(1, 5, 65);
        x.next();
        return x;
    }

    private static void refusedCallsChangeNothing() {
        CHECKS.promise(13, "A call that is refused changes nothing");
        CHECKS.leaves("aggSum(2)", Promise13AggSumTest::walking, x -> CHECKS.throwing(
                "aggSum(2)", IndexOutOfBoundsException.class, () -> x.aggSum(2, 0, 100)));
        CHECKS.leaves("aggSum(-1)", Promise13AggSumTest::walking, x -> CHECKS.throwing(
                "aggSum(-1)", IndexOutOfBoundsException.class, () -> x.aggSum(-1, 0, 100)));
        CHECKS.leaves("aggSum() of a store that is down", Scenes::down, x -> CHECKS.throwing(
                "aggSum(1)", IllegalStateException.class, () -> x.aggSum(1, 0, 100)));
        CHECKS.leaves("aggSum()", Promise13AggSumTest::walking, x -> x.aggSum(1, 0, 100), "look(4)", "look(5)");
    }
}
