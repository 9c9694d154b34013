/** Promise 12: aggMax. */
public final class Promise12AggMaxTest {
    private static final int LEAST = Scenes.LEAST;
    private static final int GREATEST = Scenes.GREATEST;
    private static final Checks CHECKS = new Checks();

    public static void main(String[] args) {
        theGreatestValue();
        ofAFullHead();
        theEndsOfValues();
        zeroIfThereAreNone();
        zeroBehindOneThatHadSome();
        theStoreIsDown();
        thereIsNoSuchSeries();
        refusedCallsChangeNothing();
        CHECKS.done();
    }

    private static void theGreatestValue() {
        CHECKS.promise(12, "The greatest VALUE of these");
        ofParts();
        Ledger x = new Ledger(1, 3, 2);
        int[] values = {-5, -9, -7, -2, -30, -1, -8};
        for (int t = 0; t < values.length; t++) {
            x.append(0, t, values[t]);
        }
        for (int round = 0; round < 2; round++) {
            CHECKS.same("of values below 0", x.aggMax(0, 0, 9), -1);
            CHECKS.same("of a part", x.aggMax(0, 1, 4), -2);
            CHECKS.same("of the first", x.aggMax(0, 0, 0), -5);
            CHECKS.same("of the last", x.aggMax(0, 6, 6), -8);
            x.flush();
        }
        Ledger y = new Ledger(1, 3, 2);
        int[] above = {5, 9, 7, 2, 30, 3, 8};
        for (int t = 0; t < above.length; t++) {
            y.append(0, t, above[t]);
        }
        for (int round = 0; round < 2; round++) {
            CHECKS.same("of values above 0", y.aggMax(0, 0, 9), 30);
            CHECKS.same("of a part of them", y.aggMax(0, 5, 6), 8);
            CHECKS.same("of another part", y.aggMax(0, 0, 2), 9);
            y.flush();
        }
    }

    private static void ofParts() {
        for (int from = -5; from <= 105; from += 5) {
            Ledger x = Scenes.filled();
            for (int to = -5; to <= 105; to += 5) {
                int due = 0;
                int count = 0;
                for (int t = 0; t <= 100; t += 10) {
                    if (t >= from && t <= to) {
                        due = count == 0 ? 1000 - t : Math.max(due, 1000 - t);
                        count++;
                    }
                }
                CHECKS.same("aggMax(1, " + from + ", " + to + ")", x.aggMax(1, from, to), due);
            }
        }
    }

    private static void ofAFullHead() {
        CHECKS.promise(12, "The greatest VALUE of these, in a HEAD of 128");
        Ledger x = Scenes.fullHead();
        int due = Scenes.ofFullHead(0);
        for (int t = 0; t < 128; t++) {
            due = Math.max(due, Scenes.ofFullHead(t));
            CHECKS.same("up to " + t, x.aggMax(0, LEAST, t), due);
            int last = Math.max(Scenes.ofFullHead(127), Scenes.ofFullHead(Math.max(t, 126)));
            CHECKS.same("from " + t, x.aggMax(0, t, GREATEST), last);
        }
    }

    private static void theEndsOfValues() {
        CHECKS.promise(12, "The greatest VALUE of these, that are the least and the greatest int");
        Ledger x = new Ledger(1, 2, 2);
        int[] values = {7, GREATEST, 0, LEAST, 7};
        for (int t = 0; t < values.length; t++) {
            x.append(0, t, values[t]);
        }
        for (int round = 0; round < 2; round++) {
            CHECKS.same("of MAX alone", x.aggMax(0, 1, 1), GREATEST);
            CHECKS.same("of MIN alone", x.aggMax(0, 3, 3), LEAST);
            CHECKS.same("of 0 and MIN", x.aggMax(0, 2, 3), 0);
            CHECKS.same("of all", x.aggMax(0, 0, 9), GREATEST);
            x.flush();
        }
    }

    private static void zeroIfThereAreNone() {
        CHECKS.promise(12, "0 if there are none");
        CHECKS.same("of a new one", new Ledger(1, 2, 2).aggMax(0, LEAST, GREATEST), 0);
        Ledger x = Scenes.filled();
        int[][] ranges = {{-9, -1}, {1, 9}, {11, 19}, {81, 89}, {101, GREATEST}, {30, 20}, {25, 24}, {GREATEST, LEAST}};
        for (int[] range : ranges) {
            CHECKS.same("from " + range[0] + " to " + range[1], x.aggMax(1, range[0], range[1]), 0);
        }
        Ledger y = new Ledger(2, 2, 2);
        y.append(1, 0, -5);
        y.append(1, 1, -6);
        CHECKS.same("beside values below 0", y.aggMax(0, LEAST, GREATEST), 0);
        CHECKS.same("between the times of a head below 0", y.aggMax(1, 2, 9), 0);
        y.flush();
        y.expire(GREATEST);
        CHECKS.same("when all has gone", y.aggMax(1, LEAST, GREATEST), 0);
    }

    private static void zeroBehindOneThatHadSome() {
        CHECKS.promise(12, "0 if there are none, whatever was answered ahead of it");
        Ledger x = Scenes.filled();
        int[][] ranges = {{-9, -1}, {1, 9}, {11, 19}, {81, 89}, {101, GREATEST}, {30, 20}, {GREATEST, LEAST}};
        for (int[] range : ranges) {
            CHECKS.same("of all ahead of it", x.aggMax(1, LEAST, GREATEST), 1000);
            CHECKS.same("from " + range[0] + " to " + range[1], x.aggMax(1, range[0], range[1]), 0);
        }
        Ledger y = new Ledger(2, 2, 2);
        y.append(1, 0, -5);
        CHECKS.same("of a value below 0 ahead of it", y.aggMax(1, LEAST, GREATEST), -5);
        CHECKS.same("of an empty series", y.aggMax(0, LEAST, GREATEST), 0);
        y.flush();
        CHECKS.same("of its chunk ahead of it", y.aggMax(1, LEAST, GREATEST), -5);
        y.expire(GREATEST);
        CHECKS.same("when it has gone", y.aggMax(1, LEAST, GREATEST), 0);
    }

    private static void theStoreIsDown() {
        CHECKS.promise(12, "Exceptions likewise: IllegalStateException: the store is DOWN");
        Ledger x = Scenes.down();
        for (int s : new int[] {0, 1, 2, -1, LEAST, GREATEST}) {
            CHECKS.throwing("aggMax(" + s + ", 0, 100)", IllegalStateException.class, () -> x.aggMax(s, 0, 100));
            CHECKS.throwing("aggMax(" + s + ", 1, 0)", IllegalStateException.class, () -> x.aggMax(s, 1, 0));
        }
        x.recover();
        CHECKS.same("with power", x.aggMax(1, 10, 10), 990);
    }

    private static void thereIsNoSuchSeries() {
        CHECKS.promise(12, "Exceptions likewise: IndexOutOfBoundsException: there is no such SERIES");
        Ledger x = Scenes.filled();
        for (int bad : Scenes.NO_SERIES_OF_TWO) {
            CHECKS.throwing("aggMax(" + bad + ")", IndexOutOfBoundsException.class, () -> x.aggMax(bad, 0, 100));
            CHECKS.throwing("aggMax(" + bad + ")", IndexOutOfBoundsException.class, () -> x.aggMax(bad, 1, 0));
        }
    }

    private static Ledger walking() {
        Ledger x = Scenes.filled();
        x.seek(1, 5, 65);
        x.next();
        return x;
    }

    private static void refusedCallsChangeNothing() {
        CHECKS.promise(12, "A call that is refused changes nothing");
        CHECKS.leaves("aggMax(2)", Promise12AggMaxTest::walking, x -> CHECKS.throwing(
                "aggMax(2)", IndexOutOfBoundsException.class, () -> x.aggMax(2, 0, 100)));
        CHECKS.leaves("aggMax(-1)", Promise12AggMaxTest::walking, x -> CHECKS.throwing(
                "aggMax(-1)", IndexOutOfBoundsException.class, () -> x.aggMax(-1, 0, 100)));
        CHECKS.leaves("aggMax() of a store that is down", Scenes::down, x -> CHECKS.throwing(
                "aggMax(1)", IllegalStateException.class, () -> x.aggMax(1, 0, 100)));
        CHECKS.leaves("aggMax()", Promise12AggMaxTest::walking, x -> x.aggMax(1, 0, 100), "look(4)", "look(5)");
    }
}
