/** Promise 10: aggCount. */
public final class Promise10AggCountTest {
    private static final int LEAST = Scenes.LEAST;
    private static final int GREATEST = Scenes.GREATEST;
    private static final Checks CHECKS = new Checks();

    public static void main(String[] args) {
        howManyPoints();
        ofAFullHead();
        bothTimesBelongToIt();
        noneIfTheFirstIsAboveTheSecond();
        noPoints();
        noneBehindOneThatHadSome();
        downAnswersDown();
        thereIsNoSuchSeries();
        refusedCallsChangeNothing();
        CHECKS.done();
    }

    private static void howManyPoints() {
        CHECKS.promise(10, "How many POINTS a SERIES has from a TIME to a TIME");
        for (int from = -5; from <= 105; from += 5) {
            Ledger x = Scenes.filled();
            for (int to = -5; to <= 105; to += 5) {
                int due = 0;
                for (int t = 0; t <= 100; t += 10) {
                    due += t >= from && t <= to ? 1 : 0;
                }
                CHECKS.same("aggCount(1, " + from + ", " + to + ")", x.aggCount(1, from, to), due);
            }
        }
        CHECKS.same("aggCount(0, MIN, MAX)", Scenes.filled().aggCount(0, LEAST, GREATEST), 2);
    }

    private static void ofAFullHead() {
        CHECKS.promise(10, "How many POINTS a SERIES has, in a HEAD of 128");
        Ledger x = Scenes.fullHead();
        for (int t = 0; t < 128; t++) {
            CHECKS.same("up to " + t, x.aggCount(0, LEAST, t), t + 1);
            CHECKS.same("from " + t, x.aggCount(0, t, GREATEST), 128 - t);
        }
    }

    private static void bothTimesBelongToIt() {
        CHECKS.term(5, 10, "from a TIME to a TIME (both belong to it)");
        Ledger x = Scenes.filled();
        for (int t = 0; t <= 100; t += 10) {
            CHECKS.same("at " + t, x.aggCount(1, t, t), 1);
            CHECKS.same("up to " + t, x.aggCount(1, LEAST, t), t / 10 + 1);
            CHECKS.same("from " + t, x.aggCount(1, t, GREATEST), 11 - t / 10);
            CHECKS.same("just below " + t, x.aggCount(1, LEAST, t - 1), t / 10);
            CHECKS.same("just above " + t, x.aggCount(1, t + 1, GREATEST), 10 - t / 10);
        }
        Ledger y = new Ledger(1, 2, 2);
        y.append(0, LEAST, 1);
        y.append(0, GREATEST, 1);
        for (int round = 0; round < 2; round++) {
            CHECKS.same("at MIN", y.aggCount(0, LEAST, LEAST), 1);
            CHECKS.same("at MAX", y.aggCount(0, GREATEST, GREATEST), 1);
            CHECKS.same("between", y.aggCount(0, LEAST + 1, GREATEST - 1), 0);
            CHECKS.same("all", y.aggCount(0, LEAST, GREATEST), 2);
            y.flush();
        }
    }

    private static void noneIfTheFirstIsAboveTheSecond() {
        CHECKS.term(5, 10, "no POINT, if the first one is above the second one");
        Ledger x = Scenes.filled();
        int[][] ranges = {{1, 0}, {10, 0}, {30, 20}, {100, 0}, {95, 90}, {100, 90}, {80, 0}, {GREATEST, LEAST}};
        for (int[] range : ranges) {
            CHECKS.same("from " + range[0] + " to " + range[1], x.aggCount(1, range[0], range[1]), 0);
        }
    }

    private static void noPoints() {
        CHECKS.promise(10, "How many POINTS: none");
        Ledger x = new Ledger(3, 2, 2);
        CHECKS.same("of a new one", x.aggCount(2, LEAST, GREATEST), 0);
        x.append(0, 1, 1);
        x.append(2, 1, 1);
        x.flush();
        CHECKS.same("between other series", x.aggCount(1, LEAST, GREATEST), 0);
        x.expire(GREATEST);
        CHECKS.same("when all has gone", x.aggCount(0, LEAST, GREATEST), 0);
        CHECKS.same("between points", Scenes.filled().aggCount(1, 81, 89), 0);
    }

    private static void noneBehindOneThatHadSome() {
        CHECKS.promise(10, "How many POINTS: none, whatever was answered ahead of it");
        Ledger x = Scenes.filled();
        for (int[] range : new int[][] {{-9, -1}, {11, 19}, {81, 89}, {101, GREATEST}, {30, 20}, {GREATEST, LEAST}}) {
            CHECKS.same("of all ahead of it", x.aggCount(1, LEAST, GREATEST), 11);
            CHECKS.same("from " + range[0] + " to " + range[1], x.aggCount(1, range[0], range[1]), 0);
        }
    }

    private static void downAnswersDown() {
        CHECKS.promise(10, "DOWN");
        Ledger x = Scenes.down();
        CHECKS.same("aggCount(1, 0, 100)", x.aggCount(1, 0, 100), PointLedger.DOWN);
        CHECKS.same("aggCount(1, 1, 0)", x.aggCount(1, 1, 0), PointLedger.DOWN);
        CHECKS.same("ahead of BAD_SERIES", x.aggCount(2, 0, 100), PointLedger.DOWN);
        CHECKS.same("ahead of BAD_SERIES below", x.aggCount(-1, 0, 100), PointLedger.DOWN);
        x.recover();
        CHECKS.same("with power", x.aggCount(1, 0, 100), 11);
    }

    private static void thereIsNoSuchSeries() {
        CHECKS.promise(10, "BAD_SERIES");
        Ledger x = Scenes.filled();
        for (int bad : Scenes.NO_SERIES_OF_TWO) {
            CHECKS.same("aggCount(" + bad + ", 0, 100)", x.aggCount(bad, 0, 100), PointLedger.BAD_SERIES);
            CHECKS.same("aggCount(" + bad + ", 1, 0)", x.aggCount(bad, 1, 0), PointLedger.BAD_SERIES);
        }
    }

    private static void refusedCallsChangeNothing() {
        CHECKS.promise(10, "A call that is refused changes nothing");
        CHECKS.leaves("aggCount(2)", Promise10AggCountTest::walking, x -> x.aggCount(2, 0, 100));
        CHECKS.leaves("aggCount(-1)", Promise10AggCountTest::walking, x -> x.aggCount(-1, 0, 100));
        CHECKS.leaves("aggCount() of a store that is down", Scenes::down, x -> x.aggCount(1, 0, 100));
        CHECKS.leaves("aggCount()", Promise10AggCountTest::walking, x -> x.aggCount(1, 0, 100), "look(4)", "look(5)");
    }

    private static Ledger walking() {
        Ledger x = Scenes.filled();
        x.seek(1, 5, 65);
        x.next();
        return x;
    }
}
