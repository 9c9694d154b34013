/** Promise 15: recover. */
public final class Promise15RecoverTest {
    private static final int LEAST = Scenes.LEAST;
    private static final int GREATEST = Scenes.GREATEST;
    private static final Checks CHECKS = new Checks();

    public static void main(String[] args) {
        powerComes();
        alsoIfItHadNotGone();
        doesNotGoAnyMoreAsToldBefore();
        howManyPointsThereAre();
        allIsReadFromTheDiskAlone();
        whatWasCutShortIsAsIfNotBegun();
        whatWasCutShortCanBeDoneAgain();
        whatWasDoneIsThere();
        aBlockThatWasCutShort();
        olderBlocksAreNotLogged();
        aTurnThatWasCutShort();
        anIndexThatWasCutShort();
        againAndAgain();
        CHECKS.done();
    }

    private static void powerComes() {
        CHECKS.promise(15, "Power comes");
        Ledger x = Scenes.down();
        CHECKS.same("recover()", x.recover(), 13);
        CHECKS.same("look(6)", x.look(6), 0);
        CHECKS.same("look(7)", x.look(7), PointLedger.NONE);
        CHECKS.same("sizes()", x.sizes(1, 1), 2);
        CHECKS.same("aggMin()", x.aggMin(1, 0, 100), 900);
        CHECKS.same("append()", x.append(1, 200, 0), 0);
        CHECKS.same("flush()", x.flush(), 3);
    }

    private static void alsoIfItHadNotGone() {
        CHECKS.promise(15, "also if it had not gone");
        CHECKS.same("recover()", Scenes.filled().recover(), 13);
        CHECKS.leaves("recover()", Promise15RecoverTest::walking, Ledger::recover, "look(8)", "curTime()", "curVal()");
        CHECKS.leaves("recover() of a full log", Scenes::fullLog, Ledger::recover, "look(8)");
        CHECKS.leaves("recover() of a full index", () -> Scenes.chunks(96), Ledger::recover, "look(8)");
        CHECKS.leaves("recover() of a new one", () -> new Ledger(8, 64, 8), Ledger::recover, "look(8)");
        CHECKS.leaves("recover() of a full area", Scenes::crowded, Ledger::recover, "look(8)");
        CHECKS.leaves("recover() of holes", Scenes::holes, Ledger::recover, "look(8)");
    }

    private static Ledger walking() {
        Ledger x = Scenes.filled();
        x.seek(1, 5, 65);
        x.next();
        return x;
    }

    private static void doesNotGoAnyMoreAsToldBefore() {
        CHECKS.promise(15, "does not go any more as told before");
        Ledger x = Scenes.filled();
        x.crashAfter(5);
        CHECKS.same("recover()", x.recover(), 13);
        CHECKS.same("look(7)", x.look(7), PointLedger.NONE);
        CHECKS.same("append()", x.append(1, 200, 0), 0);
        CHECKS.same("append()", x.append(1, 201, 0), 0);
        Ledger y = Scenes.filled();
        y.crashAfter(0);
        y.recover();
        CHECKS.same("flush()", y.flush(), 2);
        y.crashAfter(3);
        y.append(1, 200, 0);
        y.recover();
        CHECKS.same("append() behind power that went", y.append(1, 200, 0), 0);
        CHECKS.yes("it may be told anew", y.crashAfter(2));
        CHECKS.same("append() then", y.append(1, 201, 0), PointLedger.DOWN);
    }

    private static void howManyPointsThereAre() {
        CHECKS.promise(15, "how many POINTS there are");
        CHECKS.same("of a new one", new Ledger(1, 2, 2).recover(), 0);
        CHECKS.same("of heads", Scenes.fullLog().recover(), 128);
        CHECKS.same("of chunks", Scenes.chunks(96).recover(), 192);
        CHECKS.same("of both", Scenes.filled().recover(), 13);
        Ledger x = Scenes.filled();
        x.expire(1000);
        CHECKS.same("when chunks have gone", x.recover(), 3);
        x.flush();
        x.expire(1000);
        CHECKS.same("when all has gone", x.recover(), 0);
    }

    private static void allIsReadFromTheDiskAlone() {
        CHECKS.promise(15, "all is read from the DISK alone");
        Ledger x = Scenes.filled();
        x.recover();
        x.seek(1, LEAST, GREATEST);
        for (int t = 0; t <= 100; t += 10) {
            CHECKS.yes("next()", x.next());
            CHECKS.same("curTime()", x.curTime(), t);
            CHECKS.same("curVal()", x.curVal(), 1000 - t);
        }
        CHECKS.no("next() behind all", x.next());
        CHECKS.same("the last point is known", x.append(1, 100, 0), PointLedger.NOT_RISING);
        CHECKS.same("append() goes on", x.append(1, 110, 5), 0);
        CHECKS.cells("behind the blocks that are logged", x, 1923 + 8, 1, 100, 900, 2, 1, 110, 5, 2);
        CHECKS.same("flush() goes on", x.flush(), 3);
        CHECKS.same("the side that is free is turned to", x.cell(0), 4);
        CHECKS.same("in cells that are free", x.chunk(0, 1, 5), 2435 + 2 + 4 * 3 + 2);
    }

    private static void whatWasCutShortIsAsIfNotBegun() {
        CHECKS.promise(15, "all is read from the DISK, where power went ahead of any write");
        for (Writing w : Writing.all()) {
            State due = State.of(w.scene);
            String[] but = new String[w.order.length + 2];
            for (int k = 0; k < w.order.length; k++) {
                but[k] = "cell(" + w.order[k] + ")";
            }
            but[w.order.length] = "look(0)";
            but[w.order.length + 1] = "look(8)";
            for (int writes = 0; writes < w.order.length; writes++) {
                int cut = writes;
                State got = State.of(() -> {
                    Ledger x = w.cutShort(cut);
                    x.recover();
                    return x;
                });
                CHECKS.sameState(w.name + " with " + writes + " writes", got, due, but);
            }
        }
    }

    private static void whatWasCutShortCanBeDoneAgain() {
        CHECKS.promise(15, "how many POINTS there are, and the call that was cut short can be done");
        for (Writing w : Writing.all()) {
            int points = w.scene.get().recover();
            State due = State.of(w::done);
            for (int writes = 0; writes < w.order.length; writes++) {
                String what = w.name + " with " + writes + " writes";
                Ledger x = w.cutShort(writes);
                CHECKS.same(what + ": recover()", x.recover(), points);
                CHECKS.same(what + ": the call again", w.call.applyAsInt(x), w.answer);
                int cut = writes;
                State got = State.of(() -> {
                    Ledger y = w.cutShort(cut);
                    y.recover();
                    w.call.applyAsInt(y);
                    return y;
                });
                CHECKS.sameState(what + ", then again", got, due, "look(0)", "look(8)");
            }
        }
    }

    private static void whatWasDoneIsThere() {
        CHECKS.promise(15, "all is read from the DISK, where the last write was done");
        for (Writing w : Writing.all()) {
            State due = State.of(w::done);
            State got = State.of(() -> {
                Ledger x = w.cutShort(w.order.length);
                x.append(0, GREATEST, 1);
                x.recover();
                return x;
            });
            CHECKS.sameState(w.name + " with all its writes", got, due, "look(8)");
        }
    }

    private static void aBlockThatWasCutShort() {
        CHECKS.promise(15, "a BLOCK whose STAMP is not WRITTEN is not LOGGED");
        for (int writes = 0; writes < 4; writes++) {
            Ledger x = Scenes.filled();
            x.crashAfter(writes);
            x.append(0, 500, 77);
            // Ahead of flush() the fourth block was that of time 30 in series 1.
            CHECKS.cells("a block with " + writes + " writes", x, 1935,
                    writes > 0 ? 0 : 1, writes > 1 ? 500 : 30, writes > 2 ? 77 : 970, 1);
            CHECKS.same("recover()", x.recover(), 13);
            CHECKS.same("logged", x.look(1), 3);
            CHECKS.same("append() to another series", x.append(1, 101, 78), 0);
            CHECKS.cells("the block is written over", x, 1935, 1, 101, 78, 2);
            CHECKS.same("recover() again", x.recover(), 14);
            CHECKS.same("what did not come is not there", x.aggCount(0, 500, 500), 0);
        }
    }

    private static void olderBlocksAreNotLogged() {
        CHECKS.term(2, 15, "up to the first one whose STAMP is another");
        Ledger x = new Ledger(1, 4, 2);
        for (int t = 0; t < 128; t++) {
            x.append(0, t, t);
        }
        x.flush();
        CHECKS.same("none is logged", x.recover(), 128);
        for (int more = 1; more <= 5; more++) {
            x.append(0, 1000 + more, 1);
            CHECKS.same("recover() with " + more + " more", x.recover(), 128 + more);
            CHECKS.same("logged", x.look(1), more);
            CHECKS.same("head", x.sizes(0, 1), more);
        }
        x.flush();
        CHECKS.same("none is logged again", x.recover(), 133);
        x.append(0, 2000, 1);
        CHECKS.same("one of three epochs", x.recover(), 134);
        CHECKS.cells("the blocks", x, 1923, 0, 2000, 1, 3, 0, 1002, 1, 2);
        CHECKS.cells("an older one", x, 1923 + 20, 0, 5, 5, 1);
    }

    private static void aTurnThatWasCutShort() {
        CHECKS.promise(15, "CELLS of CHUNKS that did not come are free");
        Ledger x = Scenes.filled();
        int cells = x.look(3);
        x.crashAfter(2 + 3);
        CHECKS.same("flush() without its index", x.flush(), PointLedger.DOWN);
        x.recover();
        CHECKS.same("cells of chunks", x.look(3), cells);
        CHECKS.same("another point comes", x.append(0, 96, 60), 0);
        CHECKS.same("flush()", x.flush(), 2);
        CHECKS.same("at the same place", x.chunk(0, 1, 5), 2435 + cells);
        CHECKS.same("with what is due", x.aggSum(0, 0, 200), 71);
        CHECKS.same("all is got back", x.recover(), 14);
    }

    private static void anIndexThatWasCutShort() {
        CHECKS.term(2, 15, "the INDEX of SIDE tells the CHUNKS, the other one nothing");
        Ledger x = Scenes.filled();
        x.crashAfter(2 + 3 + 81);
        CHECKS.same("flush() without its root", x.flush(), PointLedger.DOWN);
        CHECKS.same("the other index is whole", x.cell(1), 8);
        CHECKS.same("the root is old", x.cell(0), 3);
        CHECKS.same("recover()", x.recover(), 13);
        CHECKS.same("chunks", x.look(2), 6);
        CHECKS.same("logged", x.look(1), 3);
        CHECKS.same("expire(11)", x.expire(11), 2);
        CHECKS.same("the other index is written over", x.cell(1), 5);
        CHECKS.same("points", x.recover(), 11);
    }

    private static void againAndAgain() {
        CHECKS.promise(15, "Power comes, as often as it goes");
        Ledger x = new Ledger(2, 3, 2);
        int points = 0;
        for (int round = 0; round < 60; round++) {
            x.crashAfter(round % 7);
            int answer = x.append(round % 2, round, round);
            CHECKS.same("append() " + round, answer, round % 7 < 4 ? PointLedger.DOWN : 0);
            points += answer == 0 ? 1 : 0;
            CHECKS.same("recover() " + round, x.recover(), points);
            if (round % 10 == 9) {
                x.crashAfter(3 * round);
                x.flush();
                CHECKS.same("recover() behind flush() " + round, x.recover(), points);
            }
        }
        CHECKS.same("how often", x.look(8), 66);
    }
}
