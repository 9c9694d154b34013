/** Promise 7: next. */
public final class Promise07NextTest {
    private static final int LEAST = Scenes.LEAST;
    private static final int GREATEST = Scenes.GREATEST;
    private static final Checks CHECKS = new Checks();

    public static void main(String[] args) {
        goesToTheNextOfItsPoints();
        goesFromEachTimeToEach();
        atTheEndsOfTime();
        goesThroughChunksOfManyPoints();
        goesThroughAFullHead();
        falseIfThereIsNone();
        falseWithoutACursor();
        staysBehindThem();
        stopsAtTheLastTime();
        questionsLeaveTheCursor();
        changesNothing();
        CHECKS.done();
    }

    private static void goesToTheNextOfItsPoints() {
        CHECKS.promise(7, "The CURSOR goes to the next of its POINTS: true");
        Ledger x = Scenes.filled();
        x.seek(1, LEAST, GREATEST);
        for (int t = 0; t <= 100; t += 10) {
            CHECKS.yes("next() to " + t, x.next());
            CHECKS.same("curTime()", x.curTime(), t);
            CHECKS.same("curVal()", x.curVal(), 1000 - t);
            CHECKS.same("curTime() again", x.curTime(), t);
        }
        CHECKS.no("next() behind all", x.next());
        x.seek(0, LEAST, GREATEST);
        CHECKS.yes("next() of 0", x.next());
        CHECKS.same("curTime()", x.curTime(), 35);
        CHECKS.yes("next() to the head of 0", x.next());
        CHECKS.same("curTime()", x.curTime(), 95);
        CHECKS.no("next() behind all of 0", x.next());
    }

    private static void goesFromEachTimeToEach() {
        CHECKS.promise(7, "its POINTS are those from a TIME to a TIME");
        for (int from = -5; from <= 105; from += 5) {
            for (int to = -5; to <= 105; to += 5) {
                walk(Scenes.filled(), from, to);
            }
        }
    }

    private static void walk(Ledger x, int from, int to) {
        String range = " from " + from + " to " + to;
        x.seek(1, from, to);
        for (int t = 0; t <= 100; t += 10) {
            if (t >= from && t <= to) {
                CHECKS.yes("next()" + range, x.next());
                CHECKS.same("curTime()" + range, x.curTime(), t);
                CHECKS.same("curVal()" + range, x.curVal(), 1000 - t);
            }
        }
        CHECKS.no("next() behind" + range, x.next());
        CHECKS.no("next() once more" + range, x.next());
    }

    private static void atTheEndsOfTime() {
        CHECKS.promise(7, "the next of its POINTS, at the least and the greatest TIME");
        Ledger x = new Ledger(1, 2, 2);
        x.append(0, LEAST, 1);
        x.append(0, 0, 2);
        x.append(0, GREATEST, 3);
        for (int round = 0; round < 2; round++) {
            x.seek(0, LEAST, GREATEST);
            int[] times = {LEAST, 0, GREATEST};
            for (int k = 0; k < 3; k++) {
                CHECKS.yes("next()", x.next());
                CHECKS.same("curTime()", x.curTime(), times[k]);
                CHECKS.same("curVal()", x.curVal(), k + 1);
            }
            CHECKS.no("next() behind MAX", x.next());
            CHECKS.no("next() behind MAX again", x.next());
            x.seek(0, GREATEST, GREATEST);
            CHECKS.yes("next() to MAX alone", x.next());
            CHECKS.same("curVal()", x.curVal(), 3);
            CHECKS.no("next() behind it", x.next());
            x.seek(0, LEAST, LEAST);
            CHECKS.yes("next() to MIN alone", x.next());
            CHECKS.same("curVal()", x.curVal(), 1);
            CHECKS.no("next() behind it", x.next());
            x.flush();
        }
    }

    private static void goesThroughChunksOfManyPoints() {
        CHECKS.promise(7, "the next of its POINTS, in full CHUNKS");
        int[] times = new int[100];
        int[] values = new int[100];
        Ledger x = new Ledger(1, 64, 8);
        for (int p = 0; p < 100; p++) {
            times[p] = p * p * p - 50_000;
            values[p] = p % 3 == 0 ? -p * 1_000_003 : p * p;
            x.append(0, times[p], values[p]);
        }
        x.flush();
        for (int from : new int[] {0, 63, 64, 99}) {
            x.seek(0, times[from], GREATEST);
            for (int p = from; p < Math.min(100, from + 40); p++) {
                CHECKS.yes("next() to " + p, x.next());
                CHECKS.same("curTime()", x.curTime(), times[p]);
                CHECKS.same("curVal()", x.curVal(), values[p]);
            }
        }
    }

    private static void goesThroughAFullHead() {
        CHECKS.promise(7, "the next of its POINTS, in a HEAD of 128");
        Ledger x = Scenes.fullHead();
        Ledger y = Scenes.fullHead();
        x.seek(0, LEAST, GREATEST);
        y.seek(0, LEAST, GREATEST);
        for (int t = 0; t < 128; t++) {
            CHECKS.yes("next() to " + t, x.next() && y.next());
            CHECKS.same("curTime()", x.curTime(), t);
            CHECKS.same("curVal()", y.curVal(), Scenes.ofFullHead(t));
        }
        CHECKS.no("next() behind it", x.next());
        for (int s = 0; s < 2; s++) {
            Ledger z = Scenes.fullLog();
            z.seek(s, LEAST, GREATEST);
            for (int t = 0; t < 64; t++) {
                CHECKS.yes("next() to " + t + " of series " + s, z.next());
                CHECKS.same("curTime() of series " + s, z.curTime(), t);
                CHECKS.same("curVal() of series " + s, z.curVal(), 2 * t + s);
            }
            CHECKS.no("next() behind series " + s, z.next());
        }
    }

    private static void falseIfThereIsNone() {
        CHECKS.promise(7, "false, if there is none");
        Ledger x = Scenes.filled();
        int[][] ranges = {{-9, -1}, {1, 9}, {11, 19}, {71, 79}, {81, 89}, {91, 99}, {101, GREATEST}, {30, 20}};
        for (int[] range : ranges) {
            x.seek(1, range[0], range[1]);
            CHECKS.no("next() from " + range[0] + " to " + range[1], x.next());
        }
    }

    private static void falseWithoutACursor() {
        CHECKS.promise(7, "false, if there is no CURSOR");
        Ledger x = new Ledger(1, 2, 2);
        CHECKS.no("next() of a new one", x.next());
        CHECKS.no("next() ahead of any seek()", Scenes.filled().next());
        CHECKS.no("next() of a store that is down", Scenes.down().next());
    }

    private static void staysBehindThem() {
        CHECKS.promise(7, "it stands behind them then");
        Ledger x = Scenes.filled();
        x.seek(1, 0, 10);
        x.next();
        x.next();
        for (int k = 0; k < 5; k++) {
            CHECKS.no("next() behind the last one", x.next());
            CHECKS.same("curTime() behind the last one", x.curTime(), 0);
            CHECKS.same("curVal() behind the last one", x.curVal(), 0);
        }
        x.seek(1, 100, 100);
        CHECKS.yes("next() to the last one that there is", x.next());
        CHECKS.no("next()", x.next());
        CHECKS.no("next() again", x.next());
        CHECKS.same("seek() brings it back", x.seek(1, 0, 10), 2);
        CHECKS.yes("next()", x.next());
        CHECKS.same("curTime()", x.curTime(), 0);
        CHECKS.same("curVal()", x.curVal(), 1000);
    }

    private static void stopsAtTheLastTime() {
        CHECKS.promise(7, "false behind the last of its POINTS, though the SERIES has more");
        for (int to : new int[] {0, 10, 15, 20, 30, 35, 70, 75, 80, 85, 90, 95}) {
            Ledger x = Scenes.filled();
            x.seek(1, LEAST, to);
            for (int t = 0; t <= to; t += 10) {
                CHECKS.yes("next() up to " + to, x.next());
            }
            CHECKS.no("next() behind " + to, x.next());
            CHECKS.same("curTime() behind " + to, x.curTime(), 0);
        }
    }

    private static void questionsLeaveTheCursor() {
        CHECKS.promise(7, "The CURSOR goes on behind calls that leave it");
        Ledger x = Scenes.filled();
        x.seek(1, 5, 95);
        x.next();
        x.next();
        x.aggCount(1, 5, 65);
        x.aggMin(0, 15, 75);
        x.aggMax(1, 45, 65);
        x.aggSum(1, 45, 65);
        x.aggCount(7, 0, 0);
        CHECKS.throwing("aggSum(7)", IndexOutOfBoundsException.class, () -> x.aggSum(7, 0, 0));
        x.look(3);
        x.cell(3);
        x.sizes(1, 1);
        x.chunk(1, 3, 3);
        x.group(1, 1, 3);
        x.crashAfter(5);
        x.crashAfter(-1);
        CHECKS.same("curTime() stays", x.curTime(), 20);
        CHECKS.same("curVal() stays", x.curVal(), 980);
        for (int t = 30; t <= 90; t += 10) {
            CHECKS.yes("next()", x.next());
            x.aggSum(1, t - 15, t + 5);
            CHECKS.same("curTime()", x.curTime(), t);
            CHECKS.same("curVal()", x.curVal(), 1000 - t);
        }
        CHECKS.no("next() behind 95", x.next());
    }

    private static void changesNothing() {
        CHECKS.promise(7, "The CURSOR goes, nothing else changes");
        CHECKS.leaves("next()", () -> {
            Ledger x = Scenes.filled();
            x.seek(1, 5, 65);
            return x;
        }, x -> {
            x.next();
            x.next();
            x.next();
        }, "curTime()", "curVal()");
    }
}
