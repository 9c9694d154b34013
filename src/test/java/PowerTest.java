import java.util.function.ToIntFunction;

/** Promises 14 and 15: crashAfter and recover, and what the other calls do when power goes. */
public final class PowerTest {
    private static final int GREATEST = Integer.MAX_VALUE;
    private static final Checks CHECKS = new Checks();

    public static void main(String[] args) {
        crashAfterTakesItsNumbers();
        crashAfterIsToldAnew();
        powerGoesWhereOneMoreWriteWouldCome();
        powerGoesAheadOfEachWrite("append()", x -> x.append(1, 900, 9), 4);
        powerGoesAheadOfEachWrite("flush()", PointLedger::flush, 2 + 2 + 1 + 6 * 10 + 1);
        powerGoesAheadOfEachWrite("compact()", x -> x.compact(1), 3 + 1 + 3 * 10 + 1);
        powerGoesAheadOfEachWrite("expire()", x -> x.expire(35), 1 + 1 * 10 + 1);
        whatIsDownAnswersDown();
        lookOfAStoreThatIsDown();
        recoverComesAlsoWithPower();
        writesThatWereCutShortAreSeen();
        aCutTurnLeavesNoTrace();
        CHECKS.done();
    }

    /** Series 1: chunks {0}, {10}, {20, 40}; series 0: chunk {5}; heads {100} and {100}. */
    private static PointLedger filled() {
        PointLedger x = new PointLedger(2, 2, 2);
        x.append(1, 0, 1);
        x.append(0, 5, 2);
        x.flush();
        x.append(1, 10, 3);
        x.flush();
        x.append(1, 20, 4);
        x.append(1, 40, 5);
        x.flush();
        x.append(0, 100, 6);
        x.append(1, 100, 7);
        return x;
    }

    private static void crashAfterTakesItsNumbers() {
        PointLedger x = filled();
        int[] wrong = {-1, 1_000_001, Integer.MIN_VALUE, GREATEST};
        for (int w : wrong) {
            CHECKS.no("crashAfter(" + w + ")", x.crashAfter(w));
            CHECKS.same("power does not go", x.look(7), PointLedger.NONE);
        }
        int[] right = {0, 1, 999_999, 1_000_000};
        for (int w : right) {
            CHECKS.yes("crashAfter(" + w + ")", x.crashAfter(w));
            CHECKS.same("writes left", x.look(7), w);
        }
        CHECKS.no("crashAfter(-1) leaves what was told", x.crashAfter(-1));
        CHECKS.same("writes left", x.look(7), 1_000_000);
    }

    private static void crashAfterIsToldAnew() {
        PointLedger x = filled();
        x.crashAfter(3);
        CHECKS.yes("crashAfter(8) in place of 3", x.crashAfter(8));
        CHECKS.same("append()", x.append(0, 200, 0), 0);
        CHECKS.same("writes left", x.look(7), 4);
        x.crashAfter(2);
        CHECKS.same("append() with 2 writes", x.append(0, 201, 0), PointLedger.DOWN);
        CHECKS.no("crashAfter() of a store that is down", x.crashAfter(5));
        CHECKS.same("writes left of a store that is down", x.look(7), 0);
        CHECKS.same("recover()", x.recover(), 8);
        CHECKS.same("power does not go any more", x.look(7), PointLedger.NONE);
        CHECKS.same("append() again", x.append(0, 201, 0), 0);
    }

    private static void powerGoesWhereOneMoreWriteWouldCome() {
        PointLedger x = filled();
        x.crashAfter(4);
        CHECKS.same("the last writes are enough", x.append(0, 200, 0), 0);
        CHECKS.same("writes left", x.look(7), 0);
        CHECKS.same("not down yet", x.look(6), 0);
        CHECKS.same("calls without writes still do", x.append(0, 200, 0), PointLedger.NOT_RISING);
        CHECKS.same("aggCount() still does", x.aggCount(0, 0, 300), 3);
        CHECKS.same("expire() of nothing still does", x.expire(0), 0);
        CHECKS.same("not down yet", x.look(6), 0);
        CHECKS.yes("it may be told anew", x.crashAfter(4));
        CHECKS.same("append()", x.append(0, 201, 0), 0);
        CHECKS.same("the next write is not done", x.append(0, 202, 0), PointLedger.DOWN);
        CHECKS.same("down", x.look(6), 1);
        CHECKS.same("all is got back", x.recover(), 9);
    }

    private static void powerGoesAheadOfEachWrite(String name, ToIntFunction<PointLedger> call, int writes) {
        int due = call.applyAsInt(filled());
        for (int w = 0; w < writes; w++) {
            PointLedger x = filled();
            int before = x.look(0);
            x.crashAfter(w);
            String what = name + " with " + w + " writes";
            CHECKS.same(what, call.applyAsInt(x), PointLedger.DOWN);
            CHECKS.same(what + ": writes done", x.look(0) - before, w);
            CHECKS.same(what + ": recover()", x.recover(), 7);
            stands(what, x);
            CHECKS.same(what + ": the call again", call.applyAsInt(x), due);
        }
        PointLedger x = filled();
        int before = x.look(0);
        x.crashAfter(writes);
        CHECKS.same(name + " with all its writes", call.applyAsInt(x), due);
        CHECKS.same(name + ": writes done", x.look(0) - before, writes);
        CHECKS.same(name + ": writes left", x.look(7), 0);
        CHECKS.same(name + ": not down", x.look(6), 0);
    }

    private static void stands(String what, PointLedger x) {
        CHECKS.same(what + ": chunks", x.look(2), 4);
        CHECKS.same(what + ": cells of chunks", x.look(3), 9);
        CHECKS.same(what + ": logged", x.look(1), 2);
        CHECKS.same(what + ": root", x.cell(0), 7);
        CHECKS.same(what + ": sum of 0", x.aggSum(0, 0, 100), 8);
        CHECKS.same(what + ": sum of 1", x.aggSum(1, 0, 100), 20);
        CHECKS.same(what + ": a part of 1", x.aggSum(1, 5, 30), 7);
        CHECKS.same(what + ": power stays", x.look(7), PointLedger.NONE);
    }

    private static PointLedger gone() {
        PointLedger x = filled();
        x.aggCount(1, 5, 30);
        x.crashAfter(2);
        x.append(0, 500, 1);
        return x;
    }

    private static void whatIsDownAnswersDown() {
        PointLedger x = gone();
        int writes = x.look(0);
        CHECKS.same("append()", x.append(0, 600, 1), PointLedger.DOWN);
        CHECKS.same("flush()", x.flush(), PointLedger.DOWN);
        CHECKS.same("compact()", x.compact(1), PointLedger.DOWN);
        CHECKS.same("expire()", x.expire(GREATEST), PointLedger.DOWN);
        CHECKS.same("seek()", x.seek(0, 0, 9), PointLedger.DOWN);
        CHECKS.same("aggCount()", x.aggCount(0, 0, 9), PointLedger.DOWN);
        CHECKS.no("next()", x.next());
        CHECKS.same("curTime()", x.curTime(), 0);
        CHECKS.same("curVal()", x.curVal(), 0);
        CHECKS.same("nothing is written", x.look(0), writes);
        CHECKS.same("recover()", x.recover(), 7);
        CHECKS.same("up again", x.look(6), 0);
        CHECKS.same("append()", x.append(0, 600, 1), 0);
        CHECKS.same("flush()", x.flush(), 2);
    }

    private static void lookOfAStoreThatIsDown() {
        PointLedger x = gone();
        int[] due = {x.look(0), 2, 4, 9, 5, 1, 1, 0, 0, PointLedger.NONE};
        for (int what = 0; what < due.length; what++) {
            CHECKS.same("down: look(" + what + ")", x.look(what), due[what]);
        }
        PointLedger y = filled();
        y.aggCount(1, 5, 30);
        y.crashAfter(60);
        CHECKS.same("flush() cut short", y.flush(), PointLedger.DOWN);
        for (int what = 1; what < due.length; what++) {
            CHECKS.same("down in flush(): look(" + what + ")", y.look(what), due[what]);
        }
        y.recover();
        CHECKS.same("recover() leaves the writes", y.look(0), x.look(0) - 2 + 60);
        CHECKS.same("recover() leaves the looks", y.look(4), 5);
        CHECKS.same("recover() leaves the unpacked", y.look(5), 1);
        CHECKS.same("recover() counts", y.look(8), 1);
    }

    private static void recoverComesAlsoWithPower() {
        PointLedger x = filled();
        x.crashAfter(5);
        CHECKS.same("recover()", x.recover(), 7);
        CHECKS.same("power does not go any more", x.look(7), PointLedger.NONE);
        stands("recover() of a store that is up", x);
        CHECKS.same("flush()", x.flush(), 2);
        CHECKS.same("recover() again", x.recover(), 7);
        CHECKS.same("how often", x.look(8), 2);
    }

    private static void writesThatWereCutShortAreSeen() {
        PointLedger x = gone();
        CHECKS.cells("a block without its stamp", x, 1923 + 8, 0, 500, 0, 0);
        CHECKS.same("no such cell", x.cell(4096), 0);
        PointLedger y = filled();
        y.crashAfter(4 + 1);
        y.flush();
        CHECKS.cells("the new chunks are written", y, 2435 + 9, 100, 6, 100, 7, 0);
        CHECKS.same("then the number of chunks", y.cell(1), 6);
        CHECKS.same("then the power has gone", y.cell(2 + 10), 1);
        CHECKS.same("the root is old", y.cell(0), 7);
    }

    private static void aCutTurnLeavesNoTrace() {
        PointLedger x = filled();
        x.crashAfter(64);
        CHECKS.same("flush() without its root", x.flush(), PointLedger.DOWN);
        x.recover();
        CHECKS.same("the cells are free", x.look(3), 9);
        CHECKS.same("other points come", x.append(0, 101, 60), 0);
        CHECKS.same("flush()", x.flush(), 2);
        CHECKS.same("at the same place", x.chunk(0, 1, 5), 2435 + 9);
        CHECKS.same("with what is due", x.aggSum(0, 0, 200), 68);
        CHECKS.same("all is got back", x.recover(), 8);
    }
}
