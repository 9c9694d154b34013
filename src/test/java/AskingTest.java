/** Promises 6 to 13: seek, next, curTime, curVal and the four aggregates. */
public final class AskingTest {
    private static final int LEAST = Integer.MIN_VALUE;
    private static final int GREATEST = Integer.MAX_VALUE;
    private static final Checks CHECKS = new Checks();

    public static void main(String[] args) {
        seekCountsAndStandsAhead();
        nextGoesThroughChunksAndHead();
        nextAtTheEdgesOfTime();
        nextOfACursorAfterAnother();
        nextWithoutPoints();
        cursorsGoWithWrites();
        cursorsStayWithQuestions();
        seekThatIsRefused();
        countsAtEveryEdge();
        leastGreatestAndSum();
        sumsBeyondInts();
        looksAndUnpacked();
        refusedQuestionsLeaveLooks();
        exceptions();
        CHECKS.done();
    }

    /** Series 1: chunks {0, 10} {20, 30} {40, 50} {60, 70} {80}, head {90, 100}; a value is 1,000 less its time. */
    private static PointLedger filled() {
        PointLedger x = new PointLedger(2, 2, 2);
        for (int t = 0; t <= 80; t += 10) {
            x.append(1, t, 1000 - t);
        }
        x.append(0, 35, 5);
        x.flush();
        x.append(1, 90, 910);
        x.append(0, 95, 6);
        x.append(1, 100, 900);
        return x;
    }

    private static void seekCountsAndStandsAhead() {
        PointLedger x = filled();
        CHECKS.same("seek(1, 10, 90)", x.seek(1, 10, 90), 9);
        CHECKS.same("ahead: curTime()", x.curTime(), 0);
        CHECKS.same("ahead: curVal()", x.curVal(), 0);
        CHECKS.yes("next()", x.next());
        CHECKS.same("curTime()", x.curTime(), 10);
        CHECKS.same("curVal()", x.curVal(), 990);
        CHECKS.same("seek(0, MIN, MAX)", x.seek(0, LEAST, GREATEST), 2);
        CHECKS.same("a new cursor stands ahead: curTime()", x.curTime(), 0);
        CHECKS.same("a new cursor stands ahead: curVal()", x.curVal(), 0);
        CHECKS.yes("next()", x.next());
        CHECKS.same("curTime() of series 0", x.curTime(), 35);
        CHECKS.same("curVal() of series 0", x.curVal(), 5);
    }

    private static void nextGoesThroughChunksAndHead() {
        for (int from = -5; from <= 105; from += 5) {
            for (int to = -5; to <= 105; to += 5) {
                walk(filled(), from, to);
            }
        }
    }

    private static void walk(PointLedger x, int from, int to) {
        String range = " from " + from + " to " + to;
        int count = 0;
        x.seek(1, from, to);
        for (int t = 0; t <= 100; t += 10) {
            if (t >= from && t <= to) {
                count++;
                CHECKS.yes("next()" + range, x.next());
                CHECKS.same("curTime()" + range, x.curTime(), t);
                CHECKS.same("curVal()" + range, x.curVal(), 1000 - t);
            }
        }
        CHECKS.no("next() behind" + range, x.next());
        CHECKS.same("curTime() behind" + range, x.curTime(), 0);
        CHECKS.same("curVal() behind" + range, x.curVal(), 0);
        CHECKS.no("next() once more" + range, x.next());
        CHECKS.same("seek()" + range, x.seek(1, from, to), count);
        CHECKS.same("aggCount()" + range, x.aggCount(1, from, to), count);
    }

    private static void nextAtTheEdgesOfTime() {
        PointLedger x = new PointLedger(1, 2, 2);
        x.append(0, LEAST, 1);
        x.append(0, 0, 2);
        x.append(0, GREATEST, 3);
        for (int round = 0; round < 2; round++) {
            CHECKS.same("seek(0, MIN, MAX)", x.seek(0, LEAST, GREATEST), 3);
            CHECKS.yes("next() to MIN", x.next());
            CHECKS.same("curTime()", x.curTime(), LEAST);
            CHECKS.yes("next() to 0", x.next());
            CHECKS.yes("next() to MAX", x.next());
            CHECKS.same("curTime()", x.curTime(), GREATEST);
            CHECKS.same("curVal()", x.curVal(), 3);
            CHECKS.no("next() behind MAX", x.next());
            CHECKS.no("next() behind MAX again", x.next());
            CHECKS.same("curTime()", x.curTime(), 0);
            CHECKS.same("seek(0, MAX, MIN)", x.seek(0, GREATEST, LEAST), 0);
            CHECKS.no("next() of none", x.next());
            x.flush();
        }
    }

    private static void nextOfACursorAfterAnother() {
        for (int steps = 0; steps <= 12; steps++) {
            PointLedger x = filled();
            x.seek(1, 0, 100);
            for (int k = 0; k < steps; k++) {
                x.next();
            }
            walk(x, 40, 100);
            walk(x, 85, 100);
            walk(x, 0, 10);
        }
    }

    private static void nextWithoutPoints() {
        PointLedger x = new PointLedger(1, 2, 2);
        CHECKS.no("next() without a cursor", x.next());
        CHECKS.same("curTime() without a cursor", x.curTime(), 0);
        CHECKS.same("curVal() without a cursor", x.curVal(), 0);
        CHECKS.same("seek() of an empty series", x.seek(0, LEAST, GREATEST), 0);
        CHECKS.no("next() in an empty series", x.next());
    }

    private static void cursorsGoWithWrites() {
        for (int call = 0; call < 8; call++) {
            PointLedger x = filled();
            if (call == 5) {
                x.flush();
            }
            x.seek(1, 0, 100);
            x.next();
            x.next();
            CHECKS.same("ahead of call " + call + ": curTime()", x.curTime(), 10);
            switch (call) {
                case 0 -> CHECKS.same("append()", x.append(1, 200, 0), 0);
                case 1 -> CHECKS.same("append() refused", x.append(9, 0, 0), PointLedger.BAD_SERIES);
                case 2 -> CHECKS.same("append() not rising", x.append(1, 0, 0), PointLedger.NOT_RISING);
                case 3 -> CHECKS.same("flush()", x.flush(), 2);
                case 4 -> CHECKS.same("compact() of nothing", x.compact(0), 0);
                case 5 -> CHECKS.same("flush() of nothing", x.flush(), 0);
                case 6 -> CHECKS.same("expire() of nothing", x.expire(0), 0);
                default -> CHECKS.same("recover()", x.recover(), 13);
            }
            CHECKS.same("behind call " + call + ": curTime()", x.curTime(), 0);
            CHECKS.same("behind call " + call + ": curVal()", x.curVal(), 0);
            CHECKS.no("behind call " + call + ": next()", x.next());
        }
        PointLedger x = filled();
        x.seek(1, 0, 100);
        CHECKS.same("compact() refused", x.compact(2), PointLedger.BAD_SERIES);
        CHECKS.no("next() behind it", x.next());
    }

    private static void cursorsStayWithQuestions() {
        PointLedger x = filled();
        x.seek(1, 5, 95);
        x.next();
        x.next();
        x.aggCount(1, 5, 65);
        x.aggMin(0, 15, 75);
        x.aggMax(1, 45, 65);
        x.aggSum(1, 45, 65);
        CHECKS.same("the questions unpack other chunks", x.look(5), 2);
        x.aggCount(7, 0, 0);
        x.look(3);
        x.cell(3);
        x.sizes(1, 1);
        x.chunk(1, 3, 3);
        x.group(1, 1, 3);
        x.crashAfter(5);
        CHECKS.same("curTime() stays", x.curTime(), 20);
        CHECKS.same("curVal() stays", x.curVal(), 980);
        CHECKS.yes("next() goes on", x.next());
        CHECKS.same("curTime() goes on", x.curTime(), 30);
    }

    private static void seekThatIsRefused() {
        PointLedger x = filled();
        for (int bad : new int[] {-1, 2, 8, LEAST, GREATEST}) {
            x.seek(1, 0, 100);
            x.next();
            x.next();
            CHECKS.same("seek(" + bad + ")", x.seek(bad, 0, 100), PointLedger.BAD_SERIES);
            CHECKS.same("no cursor then: curTime()", x.curTime(), 0);
            CHECKS.same("no cursor then: curVal()", x.curVal(), 0);
            CHECKS.no("no cursor then: next()", x.next());
        }
        x.crashAfter(0);
        x.append(1, 200, 0);
        CHECKS.same("seek() of a store that is down", x.seek(1, 0, 100), PointLedger.DOWN);
        CHECKS.same("down ahead of bad series", x.seek(2, 0, 100), PointLedger.DOWN);
        CHECKS.no("next() of a store that is down", x.next());
    }

    private static void countsAtEveryEdge() {
        PointLedger x = filled();
        CHECKS.same("from and to belong to it", x.aggCount(1, 20, 40), 3);
        CHECKS.same("one time", x.aggCount(1, 20, 20), 1);
        CHECKS.same("a time in the head", x.aggCount(1, 90, 90), 1);
        CHECKS.same("between times", x.aggCount(1, 21, 29), 0);
        CHECKS.same("from above to", x.aggCount(1, 40, 20), 0);
        CHECKS.same("all", x.aggCount(1, LEAST, GREATEST), 11);
        CHECKS.same("from MAX to MIN", x.aggCount(1, GREATEST, LEAST), 0);
        CHECKS.same("another series", x.aggCount(0, LEAST, GREATEST), 2);
        CHECKS.same("bad series", x.aggCount(2, 0, 0), PointLedger.BAD_SERIES);
        CHECKS.same("bad series below", x.aggCount(-1, 0, 0), PointLedger.BAD_SERIES);
        x.crashAfter(0);
        x.flush();
        CHECKS.same("down", x.aggCount(1, 0, 0), PointLedger.DOWN);
        CHECKS.same("down ahead of bad series", x.aggCount(2, 0, 0), PointLedger.DOWN);
    }

    private static void leastGreatestAndSum() {
        for (int from = -5; from <= 105; from += 5) {
            PointLedger x = filled();
            for (int to = -5; to <= 105; to += 5) {
                String range = " from " + from + " to " + to;
                int least = 0;
                int greatest = 0;
                long sum = 0;
                for (int t = 100; t >= 0; t -= 10) {
                    if (t >= from && t <= to) {
                        least = least == 0 ? 1000 - t : least;
                        greatest = 1000 - t;
                        sum += 1000 - t;
                    }
                }
                CHECKS.same("aggMin()" + range, x.aggMin(1, from, to), least);
                CHECKS.same("aggMax()" + range, x.aggMax(1, from, to), greatest);
                CHECKS.same("aggSum()" + range, x.aggSum(1, from, to), sum);
            }
        }
        PointLedger y = new PointLedger(1, 3, 2);
        int[] values = {-5, -9, -7, -2, -30, -1, -8};
        for (int t = 0; t < values.length; t++) {
            y.append(0, t, values[t]);
        }
        for (int round = 0; round < 2; round++) {
            CHECKS.same("aggMin() of values below 0", y.aggMin(0, 0, 9), -30);
            CHECKS.same("aggMax() of values below 0", y.aggMax(0, 0, 9), -1);
            CHECKS.same("aggMax() of a part", y.aggMax(0, 1, 4), -2);
            CHECKS.same("aggMin() of a part", y.aggMin(0, 1, 3), -9);
            CHECKS.same("aggMin() of none", y.aggMin(0, 10, 90), 0);
            CHECKS.same("aggMax() of none", y.aggMax(0, 10, 90), 0);
            CHECKS.same("aggSum() of none", y.aggSum(0, 10, 90), 0);
            y.flush();
        }
    }

    private static void sumsBeyondInts() {
        PointLedger x = new PointLedger(2, 4, 2);
        for (int t = 0; t < 9; t++) {
            x.append(0, t, GREATEST);
            x.append(1, t, LEAST);
        }
        for (int round = 0; round < 3; round++) {
            CHECKS.same("aggSum() up", x.aggSum(0, 0, 8), 9L * GREATEST);
            CHECKS.same("aggSum() down", x.aggSum(1, 0, 8), 9L * LEAST);
            CHECKS.same("aggSum() of a part", x.aggSum(1, 1, 5), 5L * LEAST);
            x.flush();
            x.recover();
        }
        CHECKS.same("the higher 32 bits", x.cell(962 + 1 + 6), (4L * GREATEST) >> 32);
        CHECKS.same("the lower 32 bits", x.cell(962 + 1 + 7), (int) (4L * GREATEST));
    }

    private static void looksAndUnpacked() {
        PointLedger x = filled();
        looks(x, LEAST, GREATEST, 3, 0);
        looks(x, 0, 80, 3, 0);
        looks(x, 0, 79, 3, 0);
        looks(x, 1, 80, 5, 1);
        looks(x, 0, 69, 5, 1);
        looks(x, 20, 30, 5, 0);
        looks(x, 20, 60, 7, 1);
        looks(x, 15, 65, 7, 1);
        looks(x, 5, 65, 7, 2);
        looks(x, 31, 39, 3, 0);
        looks(x, 11, 19, 5, 0);
        looks(x, 80, 80, 3, 0);
        looks(x, 81, 500, 3, 0);
        looks(x, 25, 25, 5, 1);
        looks(x, 26, 24, 5, 1);
        looks(x, GREATEST, LEAST, 3, 0);
        x.seek(1, 5, 65);
        for (int k = 0; k < 7; k++) {
            x.next();
        }
        CHECKS.same("what a cursor looks at does not count", x.look(4), 7);
        CHECKS.same("what a cursor unpacks does not count", x.look(5), 2);
        x.aggCount(0, LEAST, GREATEST);
        CHECKS.same("of one chunk", x.look(4), 1);
    }

    private static void looks(PointLedger x, int from, int to, int looks, int unpacked) {
        String range = " from " + from + " to " + to;
        for (int call = 0; call < 5; call++) {
            x.aggCount(0, 30, 35);
            switch (call) {
                case 0 -> x.seek(1, from, to);
                case 1 -> x.aggCount(1, from, to);
                case 2 -> x.aggMin(1, from, to);
                case 3 -> x.aggMax(1, from, to);
                default -> x.aggSum(1, from, to);
            }
            CHECKS.same("looks of call " + call + range, x.look(4), looks);
            CHECKS.same("unpacked by call " + call + range, x.look(5), unpacked);
        }
    }

    private static void refusedQuestionsLeaveLooks() {
        PointLedger x = filled();
        x.aggCount(1, 5, 65);
        x.seek(2, 0, 0);
        x.aggCount(-1, 0, 0);
        CHECKS.throwing("aggMin(2)", IndexOutOfBoundsException.class, () -> x.aggMin(2, 0, 0));
        CHECKS.throwing("aggMax(2)", IndexOutOfBoundsException.class, () -> x.aggMax(2, 0, 0));
        CHECKS.throwing("aggSum(2)", IndexOutOfBoundsException.class, () -> x.aggSum(2, 0, 0));
        x.sizes(1, 2);
        x.group(1, 0, 2);
        x.recover();
        CHECKS.same("looks stay", x.look(4), 7);
        CHECKS.same("unpacked stay", x.look(5), 2);
        x.crashAfter(0);
        x.flush();
        x.seek(1, 0, 0);
        x.aggCount(1, 0, 0);
        CHECKS.same("looks stay of a store that is down", x.look(4), 7);
        CHECKS.same("unpacked stay of a store that is down", x.look(5), 2);
    }

    private static void exceptions() {
        PointLedger x = filled();
        for (int bad : new int[] {-1, 2, LEAST, GREATEST}) {
            CHECKS.throwing("aggMin(" + bad + ")", IndexOutOfBoundsException.class, () -> x.aggMin(bad, 0, 9));
            CHECKS.throwing("aggMax(" + bad + ")", IndexOutOfBoundsException.class, () -> x.aggMax(bad, 0, 9));
            CHECKS.throwing("aggSum(" + bad + ")", IndexOutOfBoundsException.class, () -> x.aggSum(bad, 0, 9));
        }
        x.crashAfter(0);
        x.flush();
        for (int series = 0; series < 3; series++) {
            int s = series;
            CHECKS.throwing("aggMin() down", IllegalStateException.class, () -> x.aggMin(s, 0, 9));
            CHECKS.throwing("aggMax() down", IllegalStateException.class, () -> x.aggMax(s, 0, 9));
            CHECKS.throwing("aggSum() down", IllegalStateException.class, () -> x.aggSum(s, 0, 9));
        }
        x.recover();
        CHECKS.same("aggMin() after recover()", x.aggMin(1, 0, 100), 900);
        CHECKS.same("aggMax() after recover()", x.aggMax(1, 0, 100), 1000);
    }
}
