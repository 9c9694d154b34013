import java.util.function.Consumer;

/** Promise 14: crashAfter, and what calls do when power goes. */
public final class Promise14CrashAfterTest {
    private static final int LEAST = Scenes.LEAST;
    private static final int GREATEST = Scenes.GREATEST;
    private static final Checks CHECKS = new Checks();

    public static void main(String[] args) {
        takesItsNumbers();
        numbersThatAreTooSmallOrTooLarge();
        ofAStoreThatIsDown();
        inPlaceOfWhatWasToldBefore();
        soManyWritesMoreAreDone();
        acrossCalls();
        justEnoughWrites();
        powerGoesOnlyAheadOfAWrite();
        theCallAnswersDown();
        eachCallAnswersDownFromThenOn();
        changesNothingElse();
        CHECKS.done();
    }

    private static void takesItsNumbers() {
        CHECKS.promise(14, "So many WRITES more are done, then power goes: true");
        for (int writes : new int[] {0, 1, 2, 511, 999_999, 1_000_000}) {
            Ledger x = Scenes.filled();
            CHECKS.yes("crashAfter(" + writes + ")", x.crashAfter(writes));
            CHECKS.same("look(7)", x.look(7), writes);
            CHECKS.same("look(6)", x.look(6), 0);
        }
    }

    private static void numbersThatAreTooSmallOrTooLarge() {
        CHECKS.promise(14, "false for a number below 0 or above 1,000,000");
        for (int writes : new int[] {-1, -2, LEAST, 1_000_001, 1_000_002, GREATEST}) {
            Ledger x = Scenes.filled();
            CHECKS.no("crashAfter(" + writes + ")", x.crashAfter(writes));
            CHECKS.same("power does not go", x.look(7), PointLedger.NONE);
            CHECKS.same("append()", x.append(1, 500, 0), 0);
            x.crashAfter(9);
            CHECKS.no("crashAfter(" + writes + ") behind 9", x.crashAfter(writes));
            CHECKS.same("what was told stays", x.look(7), 9);
            CHECKS.leaves("crashAfter(" + writes + ")", Scenes::filled, y -> y.crashAfter(writes));
        }
    }

    private static void ofAStoreThatIsDown() {
        CHECKS.promise(14, "false, if the store is DOWN");
        for (int writes : new int[] {0, 1, 5, 1_000_000, -1, 1_000_001}) {
            Ledger x = Scenes.down();
            CHECKS.no("crashAfter(" + writes + ")", x.crashAfter(writes));
            CHECKS.same("look(7)", x.look(7), 0);
            CHECKS.same("look(6)", x.look(6), 1);
            x.recover();
            CHECKS.same("look(7) behind recover()", x.look(7), PointLedger.NONE);
            CHECKS.same("flush() behind recover()", x.flush(), 2);
            CHECKS.leaves("crashAfter(" + writes + ") of a store that is down", Scenes::down, y -> y.crashAfter(writes));
        }
    }

    private static void inPlaceOfWhatWasToldBefore() {
        CHECKS.promise(14, "in place of what was told before");
        Ledger x = Scenes.filled();
        x.crashAfter(3);
        CHECKS.yes("crashAfter(8) in place of 3", x.crashAfter(8));
        CHECKS.same("look(7)", x.look(7), 8);
        CHECKS.same("append()", x.append(0, 200, 0), 0);
        CHECKS.same("look(7) behind it", x.look(7), 4);
        CHECKS.yes("crashAfter(2) in place of 4", x.crashAfter(2));
        CHECKS.same("append() with 2 writes", x.append(0, 201, 0), PointLedger.DOWN);
        Ledger y = Scenes.filled();
        y.crashAfter(0);
        CHECKS.yes("crashAfter(4) in place of 0", y.crashAfter(4));
        CHECKS.same("append() with 4 writes", y.append(0, 200, 0), 0);
    }

    private static void soManyWritesMoreAreDone() {
        CHECKS.promise(14, "So many WRITES more are done, then power goes");
        for (Writing w : Writing.all()) {
            for (int writes = 0; writes < w.order.length; writes++) {
                String what = w.name + " with " + writes + " writes";
                Ledger x = w.cutAt(writes);
                int before = x.look(0);
                CHECKS.same(what, w.call.applyAsInt(x), PointLedger.DOWN);
                CHECKS.same(what + ": writes done", x.look(0) - before, writes);
                CHECKS.same(what + ": look(6)", x.look(6), 1);
                CHECKS.same(what + ": look(7)", x.look(7), 0);
            }
        }
    }

    private static void acrossCalls() {
        CHECKS.promise(14, "So many WRITES more, of several calls together");
        Ledger x = new Ledger(1, 2, 2);
        x.crashAfter(29);
        for (int t = 0; t < 2; t++) {
            CHECKS.same("append()", x.append(0, t, 0), 0);
            CHECKS.same("look(7) behind append()", x.look(7), 25 - 4 * t);
        }
        CHECKS.same("flush(), 3 + 11 + 1 writes", x.flush(), 1);
        CHECKS.same("look(7) behind flush()", x.look(7), 6);
        CHECKS.same("append()", x.append(0, 9, 0), 0);
        CHECKS.same("look(7) behind append()", x.look(7), 2);
        CHECKS.same("expire(), 1 + 1 writes", x.expire(5), 2);
        CHECKS.same("look(7) behind expire()", x.look(7), 0);
        CHECKS.same("look(6) behind expire()", x.look(6), 0);
        CHECKS.same("append()", x.append(0, 10, 0), PointLedger.DOWN);
        CHECKS.same("writes in all", x.look(0), 29);
    }

    private static void justEnoughWrites() {
        CHECKS.term(4, 14, "so many WRITES are still done, and where one more would come it is not");
        for (Writing w : Writing.all()) {
            Ledger x = w.cutAt(w.order.length);
            int before = x.look(0);
            CHECKS.same(w.name, w.call.applyAsInt(x), w.answer);
            CHECKS.same(w.name + ": writes done", x.look(0) - before, w.order.length);
            CHECKS.same(w.name + ": look(6)", x.look(6), 0);
            CHECKS.same(w.name + ": look(7)", x.look(7), 0);
            State due = State.of(w::done);
            CHECKS.sameState(w.name + " with just enough writes", State.of(() -> w.cutShort(w.order.length)), due, "look(7)");
            CHECKS.same(w.name + ": the next write", x.append(1, 1000, 0), PointLedger.DOWN);
            CHECKS.same(w.name + ": look(6) then", x.look(6), 1);
        }
    }

    private static void powerGoesOnlyAheadOfAWrite() {
        CHECKS.term(4, 14, "where one more would come: calls without WRITES still do");
        Ledger x = Scenes.filled();
        x.crashAfter(0);
        CHECKS.same("append() not rising", x.append(1, 100, 0), PointLedger.NOT_RISING);
        CHECKS.same("append() of no series", x.append(2, 100, 0), PointLedger.BAD_SERIES);
        CHECKS.same("compact() of nothing", x.compact(0), 0);
        CHECKS.same("compact() of no series", x.compact(-1), PointLedger.BAD_SERIES);
        CHECKS.same("expire() of nothing", x.expire(0), 0);
        CHECKS.same("seek()", x.seek(1, 0, 100), 11);
        CHECKS.yes("next()", x.next());
        CHECKS.same("curVal()", x.curVal(), 1000);
        CHECKS.same("aggCount()", x.aggCount(1, 5, 65), 6);
        CHECKS.same("aggMin()", x.aggMin(1, 5, 65), 940);
        CHECKS.same("aggMax()", x.aggMax(1, 5, 65), 990);
        CHECKS.same("aggSum()", x.aggSum(1, 5, 15), 990);
        CHECKS.same("sizes()", x.sizes(1, 0), 5);
        CHECKS.same("chunk()", x.chunk(1, 0, 2), 2);
        CHECKS.same("group()", x.group(1, 0, 2), 4);
        CHECKS.same("look(6)", x.look(6), 0);
        CHECKS.same("look(7)", x.look(7), 0);
        CHECKS.same("flush()", x.flush(), PointLedger.DOWN);
        CHECKS.same("look(6)", x.look(6), 1);
    }

    private static void theCallAnswersDown() {
        CHECKS.term(4, 14, "The call in which that comes answers DOWN");
        for (Writing w : Writing.all()) {
            int last = w.order.length - 1;
            CHECKS.same(w.name + " ahead of its first write", w.call.applyAsInt(w.cutAt(0)), PointLedger.DOWN);
            CHECKS.same(w.name + " ahead of its last write", w.call.applyAsInt(w.cutAt(last)), PointLedger.DOWN);
        }
    }

    private static void eachCallAnswersDownFromThenOn() {
        CHECKS.term(4, 14, "and so does each of append(), flush(), compact(), expire(), seek(), aggCount() from then on");
        for (Writing w : Writing.all()) {
            Ledger x = w.cutShort(w.order.length - 1);
            for (int round = 0; round < 2; round++) {
                CHECKS.same("append() behind " + w.name, x.append(0, 600, 1), PointLedger.DOWN);
                CHECKS.same("flush() behind " + w.name, x.flush(), PointLedger.DOWN);
                CHECKS.same("compact() behind " + w.name, x.compact(1), PointLedger.DOWN);
                CHECKS.same("expire() behind " + w.name, x.expire(GREATEST), PointLedger.DOWN);
                CHECKS.same("seek() behind " + w.name, x.seek(0, 0, 9), PointLedger.DOWN);
                CHECKS.same("aggCount() behind " + w.name, x.aggCount(0, 0, 9), PointLedger.DOWN);
            }
            Consumer<Ledger> calls = y -> {
                y.append(0, 600, 1);
                y.flush();
                y.compact(1);
                y.expire(GREATEST);
                y.seek(0, 0, 9);
                y.next();
                y.aggCount(0, 0, 9);
            };
            CHECKS.leaves("calls behind " + w.name, () -> w.cutShort(w.order.length - 1), calls);
            x.recover();
            CHECKS.same("till recover(): " + w.name, w.call.applyAsInt(x), w.answer);
        }
    }

    private static void changesNothingElse() {
        CHECKS.promise(14, "power is told to go, nothing else changes");
        CHECKS.leaves("crashAfter(5)", () -> {
            Ledger x = Scenes.filled();
            x.seek(1, 5, 65);
            x.next();
            return x;
        }, x -> x.crashAfter(5), "look(7)");
    }
}
