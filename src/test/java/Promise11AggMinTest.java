/** Promise 11: aggMin. */
public final class Promise11AggMinTest {
    private static final int LEAST = Scenes.LEAST;
    private static final int GREATEST = Scenes.GREATEST;
    private static final Checks CHECKS = new Checks();

    public static void main(String[] args) {
        theLeastValue();
        ofAFullHead();
        theEndsOfValues();
        zeroIfThereAreNone();
        zeroBehindOneThatHadSome();
        theStoreIsDown();
        thereIsNoSuchSeries();
        refusedCallsChangeNothing();
        CHECKS.done();
    }

    private static void theLeastValue() {
        CHECKS.promise(11, "The least VALUE of these");
        ofParts();
        Ledger x = new Ledger(1, 3, 2);
        int[] values = {-5, -9, -7, -2, -30, -1, -8};
        for (int t = 0; t < values.length; t++) {
            x.append(0, t, values[t]);
        }
        for (int round = 0; round < 2; round++) {
            CHECKS.same("of values below 0", x.aggMin(0, 0, 9), -30);
            CHECKS.same("of a part", x.aggMin(0, 1, 3), -9);
            CHECKS.same("of the first", x.aggMin(0, 0, 0), -5);
            CHECKS.same("of the last", x.aggMin(0, 6, 6), -8);
            x.flush();
        }
        Ledger y = new Ledger(1, 3, 2);
        int[] above = {5, 9, 7, 2, 30, 3, 8};
        for (int t = 0; t < above.length; t++) {
            y.append(0, t, above[t]);
        }
        for (int round = 0; round < 2; round++) {
            CHECKS.same("of values above 0", y.aggMin(0, 0, 9), 2);
            CHECKS.same("of a part of them", y.aggMin(0, 4, 6), 3);
            CHECKS.same("of another part", y.aggMin(0, 0, 2), 5);
            y.flush();
        }
    }

    private static void ofParts() {
        for (int from = -5; from <= 105; from += 5) {
            Ledger x = Scenes.filled();
            for (int to = -5; to <= 105; to += 5) {
                int due = 0;
                int count = 0;
                for (int t = 0; t <= 100; t += 10) {
                    if (t >= from && t <= to) {
                        due = count == 0 ? 1000 - t : Math.min(due, 1000 - t);
                        count++;
                    }
                }
                CHECKS.same("aggMin(1, " + from + ", " + to + ")", x.aggMin(1, from, to), due);
            }
        }
    }

    private static void ofAFullHead() {
        CHECKS.promise(11, "The least VALUE of these, in a HEAD of 128");
        Ledger x = Scenes.fullHead();
        int due = Scenes.ofFullHead(0);
        for (int t = 0; t < 128; t++) {
            due = Math.min(due, Scenes.ofFullHead(t));
            CHECKS.same("up to " + t, x.aggMin(0, LEAST, t), due);
            int last = Math.min(Scenes.ofFullHead(127), Scenes.ofFullHead(Math.max(t, 126)));
            CHECKS.same("from " + t, x.aggMin(0, t, GREATEST), last);
        }
    }

    private static void theEndsOfValues() {
        CHECKS.promise(11, "The least VALUE of these, that are the least and the greatest int");
        Ledger x = new Ledger(1, 2, 2);
        int[] values = {7, GREATEST, 0, LEAST, 7};
        for (int t = 0; t < values.length; t++) {
            x.append(0, t, values[t]);
        }
        for (int round = 0; round < 2; round++) {
            CHECKS.same("of MAX alone", x.aggMin(0, 1, 1), GREATEST);
            CHECKS.same("of MIN alone", x.aggMin(0, 3, 3), LEAST);
            CHECKS.same("of MAX and 0", x.aggMin(0, 1, 2), 0);
            CHECKS.same("of all", x.aggMin(0, 0, 9), LEAST);
            x.flush();
        }
    }

    private static void zeroIfThereAreNone() {
        CHECKS.promise(11, "0 if there are none");
        CHECKS.same("of a new one", new Ledger(1, 2, 2).aggMin(0, LEAST, GREATEST), 0);
        Ledger x = Scenes.filled();
        int[][] ranges = {{-9, -1}, {1, 9}, {11, 19}, {81, 89}, {101, GREATEST}, {30, 20}, {25, 24}, {GREATEST, LEAST}};
        for (int[] range : ranges) {
            CHECKS.same("from " + range[0] + " to " + range[1], x.aggMin(1, range[0], range[1]), 0);
        }
        Ledger y = new Ledger(2, 2, 2);
        y.append(1, 0, -5);
        y.append(1, 1, -6);
        CHECKS.same("beside values below 0", y.aggMin(0, LEAST, GREATEST), 0);
        CHECKS.same("between the times of a head below 0", y.aggMin(1, 2, 9), 0);
        y.flush();
        y.expire(GREATEST);
        CHECKS.same("when all has gone", y.aggMin(1, LEAST, GREATEST), 0);
    }

    private static void zeroBehindOneThatHadSome() {
        CHECKS.promise(11, "0 if there are none, whatever was answered ahead of it");
        Ledger x = Scenes.filled();
        int[][] ranges = {{-9, -1}, {1, 9}, {11, 19}, {81, 89}, {101, GREATEST}, {30, 20}, {GREATEST, LEAST}};
        for (int[] range : ranges) {
            CHECKS.same("of all ahead of it", x.aggMin(1, LEAST, GREATEST), 900);
            CHECKS.same("from " + range[0] + " to " + range[1], x.aggMin(1, range[0], range[1]), 0);
        }
        Ledger y = new Ledger(2, 2, 2);
        y.append(1, 0, -5);
        CHECKS.same("of a value below 0 ahead of it", y.aggMin(1, LEAST, GREATEST), -5);
        CHECKS.same("of an empty series", y.aggMin(0, LEAST, GREATEST), 0);
        y.flush();
        CHECKS.same("of its chunk ahead of it", y.aggMin(1, LEAST, GREATEST), -5);
        y.expire(GREATEST);
        CHECKS.same("when it has gone", y.aggMin(1, LEAST, GREATEST), 0);
    }

    private static void theStoreIsDown() {
        CHECKS.promise(11, "IllegalStateException: the store is DOWN");
        Ledger x = Scenes.down();
        for (int s : new int[] {0, 1, 2, -1, LEAST, GREATEST}) {
            CHECKS.throwing("aggMin(" + s + ", 0, 100)", IllegalStateException.class, () -> x.aggMin(s, 0, 100));
            CHECKS.throwing("aggMin(" + s + ", 1, 0)", IllegalStateException.class, () -> x.aggMin(s, 1, 0));
        }
        x.recover();
        CHECKS.same("with power", x.aggMin(1, 10, 10), 990);
    }

    private static void thereIsNoSuchSeries() {
        CHECKS.promise(11, "IndexOutOfBoundsException: there is no such SERIES");
        Ledger x = Scenes.filled();
        for (int bad : Scenes.NO_SERIES_OF_TWO) {
            CHECKS.throwing("aggMin(" + bad + ")", IndexOutOfBoundsException.class, () -> x.aggMin(bad, 0, 100));
            CHECKS.throwing("aggMin(" + bad + ")", IndexOutOfBoundsException.class, () -> x.aggMin(bad, 1, 0));
        }
    }

    private static Ledger walking() {
        Ledger x = Scenes.filled();
        x.seek(1, 5, 65);
        x.next();
        return x;
    }

    private static void refusedCallsChangeNothing() {
        CHECKS.promise(11, "A call that is refused changes nothing");
        CHECKS.leaves("aggMin(2)", Promise11AggMinTest::walking, x -> CHECKS.throwing(
                "aggMin(2)", IndexOutOfBoundsException.class, () -> x.aggMin(2, 0, 100)));
        CHECKS.leaves("aggMin(-1)", Promise11AggMinTest::walking, x -> CHECKS.throwing(
                "aggMin(-1)", IndexOutOfBoundsException.class, () -> x.aggMin(-1, 0, 100)));
        CHECKS.leaves("aggMin() of a store that is down", Scenes::down, x -> CHECKS.throwing(
                "aggMin(1)", IllegalStateException.class, () -> x.aggMin(1, 0, 100)));
        CHECKS.leaves("aggMin()", Promise11AggMinTest::walking, x -> x.aggMin(1, 0, 100), "look(4)", "look(5)");
    }
}
