import java.util.function.Supplier;
import java.util.function.ToIntFunction;

/** Term 4: WRITES, places, and the cursor that goes with them. */
public final class Term4WritesTest {
    private static final int GREATEST = Scenes.GREATEST;
    private static final int DOWN = PointLedger.DOWN;
    private static final int BAD_SERIES = PointLedger.BAD_SERIES;
    private static final int NO_SPACE = PointLedger.NO_SPACE;
    private static final Checks CHECKS = new Checks();

    public static void main(String[] args) {
        writesComeInTheirOrder();
        nothingElseIsWritten();
        theLeastPlace();
        placesInTheOrderOfEntries();
        notOfOneThatGotItsPlaceAhead();
        holesThatLieSideBySide();
        noneAtFirst();
        noneWhenAppendWasCalled();
        noneWhenFlushWasCalled();
        noneWhenCompactWasCalled();
        noneWhenExpireWasCalled();
        noneWhenRecoverWasCalled();
        CHECKS.done();
    }

    private static void writesComeInTheirOrder() {
        CHECKS.term(4, 14, "append() WRITES the next BLOCK's four CELLS in their order; CHUNK by CHUNK; then the INDEX; then the ROOT");
        for (Writing w : Writing.all()) {
            int[] due = State.cellsOf(w.scene);
            int[] end = State.cellsOf(w::done);
            for (int writes = 0; writes <= w.order.length; writes++) {
                int cut = writes;
                int[] got = State.cellsOf(() -> w.cutShort(cut));
                for (int k = 0; k < 4096; k++) {
                    if (got[k] != due[k]) {
                        CHECKS.same(w.name + " with " + writes + " writes: cell(" + k + ")", got[k], due[k]);
                    }
                }
                CHECKS.yes(w.name + " is looked at", true);
                if (writes < w.order.length) {
                    due[w.order[writes]] = end[w.order[writes]];
                }
            }
        }
    }

    private static void nothingElseIsWritten() {
        CHECKS.term(4, 20, "A WRITE sets one CELL: as many as are set are counted");
        for (Writing w : Writing.all()) {
            CHECKS.same("writes of " + w.name, w.done().look(0) - w.scene.get().look(0), w.order.length);
        }
    }

    /** Of series 1 there are chunks of two cells; five cells from 2437 on, four from 2444 on, and all from 2450 on are free. */
    private static Ledger twoHoles() {
        Ledger x = new Ledger(2, 64, 2);
        x.append(1, 1_000_000_000, 0);
        x.flush();
        Scenes.appendCells(x, 0, 0, 5);
        x.flush();
        x.append(1, 1_000_000_001, 0);
        x.flush();
        Scenes.appendCells(x, 0, 20_000_000, 4);
        x.flush();
        x.append(1, 1_000_000_002, 0);
        x.flush();
        x.expire(100_000_000);
        return x;
    }

    private static void theLeastPlace() {
        CHECKS.term(4, 3, "the least one from which on LENGTH CELLS of the AREA are of no CHUNK that there is");
        CHECKS.same("cells of chunks", twoHoles().look(3), 6);
        for (int[] lengthAndPlace : new int[][] {{3, 2437}, {4, 2437}, {5, 2437}, {6, 2450}, {7, 2450}}) {
            Ledger x = twoHoles();
            Scenes.appendCells(x, 0, 0, lengthAndPlace[0]);
            x.flush();
            CHECKS.same("length", x.chunk(0, 0, 6), lengthAndPlace[0]);
            CHECKS.same("place of " + lengthAndPlace[0] + " cells", x.chunk(0, 0, 5), lengthAndPlace[1]);
        }
        int[][] two = {
            {5, 4, 2437, 2444}, {4, 4, 2437, 2444}, {4, 3, 2437, 2444}, {5, 5, 2437, 2450}, {6, 5, 2450, 2437},
            {6, 4, 2450, 2437}, {6, 6, 2450, 2456},
        };
        for (int[] row : two) {
            Ledger x = twoHoles();
            Scenes.appendCells(x, 1, 1_100_000_000, row[1]);
            Scenes.appendCells(x, 0, 0, row[0]);
            x.flush();
            String what = " of " + row[0] + " and " + row[1] + " cells";
            CHECKS.same("place of the first" + what, x.chunk(0, 0, 5), row[2]);
            CHECKS.same("place of the second" + what, x.chunk(1, 3, 5), row[3]);
        }
        Ledger x = twoHoles();
        Scenes.appendCells(x, 0, 0, 3);
        x.append(1, 1_100_000_000, 0);
        x.flush();
        CHECKS.same("place of two cells where two are left", x.chunk(1, 3, 5), 2440);
    }

    private static void placesInTheOrderOfEntries() {
        CHECKS.term(4, 3, "each new CHUNK, in the order of ENTRIES, gets a PLACE");
        Ledger x = new Ledger(3, 2, 2);
        x.append(2, 0, 1);
        x.append(1, 0, 1);
        x.append(2, 1, 1);
        x.append(0, 0, 1);
        x.append(2, 2, 1);
        x.flush();
        CHECKS.same("that of series 0", x.chunk(0, 0, 5), 2435);
        CHECKS.same("that of series 1", x.chunk(1, 0, 5), 2437);
        CHECKS.same("the first of series 2", x.chunk(2, 0, 5), 2439);
        CHECKS.same("the second of series 2", x.chunk(2, 1, 5), 2442);
    }

    private static void notOfOneThatGotItsPlaceAhead() {
        CHECKS.term(4, 3, "nor of one that got its PLACE ahead in this call");
        Ledger x = new Ledger(2, 2, 2);
        Scenes.seal(x, 1, 0, 1);
        Scenes.seal(x, 0, 100, 1);
        x.expire(50);
        x.append(0, 101, 0);
        x.append(1, 50, 0);
        x.append(1, 51, 0);
        x.append(1, 52, 0);
        x.flush();
        CHECKS.same("the first one gets the hole", x.chunk(0, 1, 5), 2435);
        CHECKS.same("the second one does not", x.chunk(1, 0, 5), 2439);
        CHECKS.same("nor does the third one", x.chunk(1, 1, 5), 2442);
    }

    private static void holesThatLieSideBySide() {
        CHECKS.term(4, 3, "LENGTH CELLS of the AREA are of no CHUNK that there is, whatever they were of");
        Ledger x = new Ledger(2, 4, 2);
        Scenes.sealEach(x, 0, 1, 1, 1);
        Scenes.seal(x, 1, 100, 1);
        x.expire(50);
        x.append(0, 60, 0);
        x.append(0, 61, GREATEST);
        x.append(0, 62, 0);
        x.flush();
        CHECKS.same("its length", x.chunk(0, 0, 6), 5);
        CHECKS.same("three holes of two take five", x.chunk(0, 0, 5), 2435);
        x.append(1, 101, 0);
        x.flush();
        CHECKS.same("one cell that is left takes none", x.chunk(1, 1, 5), 2443);
    }

    private static void noneAtFirst() {
        CHECKS.term(4, 7, "A CURSOR: There is none at first");
        CHECKS.noCursor("a new one", new Ledger(1, 2, 2));
        CHECKS.noCursor("points alone", Scenes.filled());
    }

    /** The cursor stands at a point, or ahead of all, and is gone when the call was made. */
    private static void goes(String name, Supplier<Ledger> scene, ToIntFunction<Ledger> call, int answer) {
        for (int steps = 0; steps < 3; steps++) {
            Ledger x = scene.get();
            x.seek(0, -10, GREATEST);
            for (int k = 0; k < steps; k++) {
                CHECKS.yes(name + ": next() ahead of it", x.next());
            }
            CHECKS.same(name, call.applyAsInt(x), answer);
            CHECKS.noCursor(name + " behind " + steps, x);
        }
    }

    private static Ledger cutAt(Ledger x, int writes) {
        x.crashAfter(writes);
        return x;
    }

    private static void noneWhenAppendWasCalled() {
        CHECKS.term(4, 2, "none any more when append() was called, whatever it answered");
        goes("append()", Scenes::filled, x -> x.append(1, 200, 0), 0);
        goes("append() of no series", Scenes::filled, x -> x.append(2, 200, 0), BAD_SERIES);
        goes("append() not rising", Scenes::filled, x -> x.append(1, 100, 0), PointLedger.NOT_RISING);
        goes("append() without space", Scenes::fullLog, x -> x.append(1, 100, 0), NO_SPACE);
        goes("append() in which power goes", () -> cutAt(Scenes.filled(), 0), x -> x.append(1, 200, 0), DOWN);
    }

    private static void noneWhenFlushWasCalled() {
        CHECKS.term(4, 3, "none any more when flush() was called, whatever it answered");
        goes("flush()", Scenes::filled, Ledger::flush, 2);
        goes("flush() of nothing", () -> Scenes.chunks(3), Ledger::flush, 0);
        goes("flush() without space", () -> {
            Ledger x = Scenes.chunks(96);
            x.append(1, 0, 0);
            return x;
        }, Ledger::flush, NO_SPACE);
        goes("flush() in which power goes", () -> cutAt(Scenes.filled(), 7), Ledger::flush, DOWN);
    }

    private static void noneWhenCompactWasCalled() {
        CHECKS.term(4, 4, "none any more when compact() was called, whatever it answered");
        Supplier<Ledger> singles = () -> {
            Ledger x = new Ledger(2, 4, 2);
            Scenes.sealEach(x, 0, 1, 1, 1);
            return x;
        };
        goes("compact()", singles, x -> x.compact(0), 2);
        goes("compact() of nothing", singles, x -> x.compact(1), 0);
        goes("compact() of no series", singles, x -> x.compact(2), BAD_SERIES);
        goes("compact() in which power goes", () -> cutAt(singles.get(), 3), x -> x.compact(0), DOWN);
        Ledger x = Scenes.crowded();
        x.seek(0, Scenes.LEAST, GREATEST);
        x.next();
        CHECKS.same("compact() without space", x.compact(0), NO_SPACE);
        CHECKS.noCursor("compact() without space", x);
    }

    private static void noneWhenExpireWasCalled() {
        CHECKS.term(4, 5, "none any more when expire() was called, whatever it answered");
        goes("expire()", Scenes::filled, x -> x.expire(20), 2);
        goes("expire() of nothing", Scenes::filled, x -> x.expire(0), 0);
        goes("expire() in which power goes", () -> cutAt(Scenes.filled(), 3), x -> x.expire(20), DOWN);
    }

    private static void noneWhenRecoverWasCalled() {
        CHECKS.term(4, 15, "none any more when recover() was called");
        goes("recover()", Scenes::filled, Ledger::recover, 13);
        goes("recover() of power told to go", () -> cutAt(Scenes.filled(), 3), Ledger::recover, 13);
    }
}
