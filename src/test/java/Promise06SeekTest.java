/** Promise 6: seek. */
public final class Promise06SeekTest {
    private static final int LEAST = Scenes.LEAST;
    private static final int GREATEST = Scenes.GREATEST;
    private static final Checks CHECKS = new Checks();

    public static void main(String[] args) {
        howManyTheseAre();
        ofAFullHead();
        bothTimesBelongToIt();
        noneIfTheFirstIsAboveTheSecond();
        theCursorStandsAhead();
        aNewCursorInPlaceOfTheOld();
        anEmptySeries();
        downLeavesNoCursor();
        badSeriesLeavesNoCursor();
        refusedCallsChangeNothingElse();
        changesNothingOfThePoints();
        CHECKS.done();
    }

    private static void howManyTheseAre() {
        CHECKS.promise(6, "how many these are");
        for (int from = -5; from <= 105; from += 5) {
            Ledger x = Scenes.filled();
            for (int to = -5; to <= 105; to += 5) {
                int due = 0;
                for (int t = 0; t <= 100; t += 10) {
                    due += t >= from && t <= to ? 1 : 0;
                }
                CHECKS.same("seek(1, " + from + ", " + to + ")", x.seek(1, from, to), due);
            }
        }
        CHECKS.same("seek(0, MIN, MAX)", Scenes.filled().seek(0, LEAST, GREATEST), 2);
    }

    private static void ofAFullHead() {
        CHECKS.promise(6, "how many these are, of a HEAD of 128");
        Ledger x = Scenes.fullHead();
        for (int t = 0; t < 128; t++) {
            CHECKS.same("up to " + t, x.seek(0, LEAST, t), t + 1);
            CHECKS.same("from " + t, x.seek(0, t, GREATEST), 128 - t);
        }
    }

    private static void bothTimesBelongToIt() {
        CHECKS.term(5, 6, "from a TIME to a TIME (both belong to it)");
        Ledger x = Scenes.filled();
        CHECKS.same("one time in a chunk", x.seek(1, 20, 20), 1);
        CHECKS.same("one time in the head", x.seek(1, 90, 90), 1);
        CHECKS.same("just beside both", x.seek(1, 21, 39), 1);
        CHECKS.same("at both", x.seek(1, 20, 40), 3);
        Ledger y = new Ledger(1, 2, 2);
        y.append(0, LEAST, 1);
        y.append(0, GREATEST, 1);
        for (int round = 0; round < 2; round++) {
            CHECKS.same("seek(0, MIN, MIN)", y.seek(0, LEAST, LEAST), 1);
            CHECKS.same("seek(0, MAX, MAX)", y.seek(0, GREATEST, GREATEST), 1);
            CHECKS.same("seek(0, MIN + 1, MAX - 1)", y.seek(0, LEAST + 1, GREATEST - 1), 0);
            CHECKS.same("seek(0, MIN, MAX)", y.seek(0, LEAST, GREATEST), 2);
            y.flush();
        }
    }

    private static void noneIfTheFirstIsAboveTheSecond() {
        CHECKS.term(5, 6, "no POINT, if the first one is above the second one");
        int[][] ranges = {{1, 0}, {10, 0}, {30, 20}, {100, 0}, {95, 90}, {100, 90}, {80, 0}, {GREATEST, LEAST}};
        for (int[] range : ranges) {
            Ledger x = Scenes.filled();
            String what = "seek(1, " + range[0] + ", " + range[1] + ")";
            CHECKS.same(what, x.seek(1, range[0], range[1]), 0);
            CHECKS.no(what + ": next()", x.next());
            CHECKS.same(what + ": curTime()", x.curTime(), 0);
        }
    }

    private static void theCursorStandsAhead() {
        CHECKS.promise(6, "A CURSOR stands ahead of the POINTS");
        Ledger x = Scenes.filled();
        x.seek(1, 10, 90);
        CHECKS.same("curTime()", x.curTime(), 0);
        CHECKS.same("curVal()", x.curVal(), 0);
        CHECKS.yes("next()", x.next());
        CHECKS.same("curTime()", x.curTime(), 10);
        CHECKS.same("curVal()", x.curVal(), 990);
    }

    private static void aNewCursorInPlaceOfTheOld() {
        CHECKS.promise(6, "A CURSOR stands ahead, wherever one stood");
        for (int steps = 0; steps <= 12; steps++) {
            Ledger x = Scenes.filled();
            x.seek(1, 0, 100);
            for (int k = 0; k < steps; k++) {
                x.next();
            }
            CHECKS.same("seek(1, 25, 95)", x.seek(1, 25, 95), 7);
            CHECKS.same("curTime() behind " + steps, x.curTime(), 0);
            CHECKS.same("curVal() behind " + steps, x.curVal(), 0);
            for (int t = 30; t <= 90; t += 10) {
                CHECKS.yes("next()", x.next());
                CHECKS.same("curTime()", x.curTime(), t);
            }
            CHECKS.no("next()", x.next());
            CHECKS.same("seek(0, 0, 100)", x.seek(0, 0, 100), 2);
            CHECKS.yes("next()", x.next());
            CHECKS.same("curTime()", x.curTime(), 35);
            CHECKS.same("curVal()", x.curVal(), 5);
        }
    }

    private static void anEmptySeries() {
        CHECKS.promise(6, "the POINTS of a SERIES, where there are none");
        Ledger x = new Ledger(3, 2, 2);
        CHECKS.same("seek() of a new one", x.seek(0, LEAST, GREATEST), 0);
        CHECKS.no("next()", x.next());
        x.append(0, 1, 1);
        x.append(2, 1, 1);
        CHECKS.same("seek() between heads", x.seek(1, LEAST, GREATEST), 0);
        CHECKS.no("next()", x.next());
        x.flush();
        CHECKS.same("seek() between chunks", x.seek(1, LEAST, GREATEST), 0);
        CHECKS.no("next()", x.next());
        x.expire(GREATEST);
        CHECKS.same("seek() when all has gone", x.seek(0, LEAST, GREATEST), 0);
        CHECKS.no("next()", x.next());
    }

    private static void downLeavesNoCursor() {
        CHECKS.promise(6, "DOWN: there is no CURSOR then");
        Ledger x = Scenes.down();
        CHECKS.same("seek(1, 0, 100)", x.seek(1, 0, 100), PointLedger.DOWN);
        CHECKS.noCursor("seek()", x);
        CHECKS.same("seek(2, 0, 100) ahead of BAD_SERIES", x.seek(2, 0, 100), PointLedger.DOWN);
        CHECKS.same("seek(-1, 5, 0) ahead of BAD_SERIES", x.seek(-1, 5, 0), PointLedger.DOWN);
        x.recover();
        CHECKS.noCursor("behind recover()", x);
        CHECKS.same("seek(1, 0, 100) with power", x.seek(1, 0, 100), 11);
    }

    private static void badSeriesLeavesNoCursor() {
        CHECKS.promise(6, "BAD_SERIES: there is no CURSOR then");
        for (int bad : Scenes.NO_SERIES_OF_TWO) {
            for (int steps = 0; steps < 3; steps++) {
                Ledger x = Scenes.filled();
                x.seek(1, 0, 100);
                for (int k = 0; k < steps; k++) {
                    x.next();
                }
                CHECKS.same("seek(" + bad + ", 0, 100)", x.seek(bad, 0, 100), PointLedger.BAD_SERIES);
                CHECKS.noCursor("seek(" + bad + ") behind " + steps, x);
            }
        }
    }

    private static void refusedCallsChangeNothingElse() {
        CHECKS.promise(6, "A call that is refused changes nothing but what is said");
        CHECKS.leaves("seek(2)", () -> asked(Scenes.filled()), x -> x.seek(2, 0, 100));
        CHECKS.leaves("seek(-1)", () -> asked(Scenes.filled()), x -> x.seek(-1, 0, 100));
        CHECKS.leaves("seek() of a store that is down", Scenes::down, x -> x.seek(1, 0, 100));
    }

    private static Ledger asked(Ledger x) {
        x.aggCount(1, 5, 65);
        return x;
    }

    private static void changesNothingOfThePoints() {
        CHECKS.promise(6, "A CURSOR stands ahead: nothing else but LOOKS and UNPACKED changes");
        CHECKS.leaves("seek()", Scenes::filled, x -> x.seek(1, 5, 65), "look(4)", "look(5)");
    }
}
