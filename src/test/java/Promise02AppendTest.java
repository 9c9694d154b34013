/** Promise 2: append. */
public final class Promise02AppendTest {
    private static final int LEAST = Scenes.LEAST;
    private static final int GREATEST = Scenes.GREATEST;
    private static final Checks CHECKS = new Checks();

    public static void main(String[] args) {
        aPointComes();
        valuesOfAllKinds();
        downComesFirst();
        thereIsNoSuchSeries();
        badSeriesComesAheadOfNoSpace();
        notRisingInTheHead();
        notRisingInAFullLog();
        notRisingBehindChunks();
        notRisingBehindChunksAtTheEndsOfTime();
        notRisingIsAskedOfTheSeriesAlone();
        notRisingIsAskedOfTheLastPointThatThereIs();
        withoutAPointAnyTimeIsRight();
        notRisingBehindAPointThatDidNotCome();
        notRisingComesAheadOfNoSpace();
        noSpaceIf128BlocksAreLogged();
        noSpaceIsOfAllSeriesTogether();
        noSpaceGoesWithFlushAlone();
        refusedCallsChangeNothing();
        CHECKS.done();
    }

    private static void aPointComes() {
        CHECKS.promise(2, "A POINT comes: 0");
        Ledger x = new Ledger(3, 4, 2);
        CHECKS.same("append(2, -7, 99)", x.append(2, -7, 99), 0);
        CHECKS.same("append(0, 5, -4)", x.append(0, 5, -4), 0);
        CHECKS.same("head of 0", x.sizes(0, 1), 1);
        CHECKS.same("head of 1", x.sizes(1, 1), 0);
        CHECKS.same("head of 2", x.sizes(2, 1), 1);
        CHECKS.same("logged", x.look(1), 2);
        CHECKS.same("no chunk", x.look(2), 0);
        CHECKS.same("sum of 2", x.aggSum(2, LEAST, GREATEST), 99);
        CHECKS.same("count at its time", x.aggCount(2, -7, -7), 1);
        CHECKS.same("count beside its time", x.aggCount(2, -6, GREATEST), 0);
        CHECKS.same("recover()", x.recover(), 2);
    }

    private static void valuesOfAllKinds() {
        CHECKS.promise(2, "A POINT comes, with a VALUE that is any int");
        int[] values = {0, -1, 1, LEAST, GREATEST, LEAST, 0};
        Ledger x = new Ledger(1, 4, 2);
        for (int t = 0; t < values.length; t++) {
            CHECKS.same("append(0, " + t + ", " + values[t] + ")", x.append(0, t, values[t]), 0);
        }
        for (int round = 0; round < 2; round++) {
            x.seek(0, LEAST, GREATEST);
            for (int value : values) {
                x.next();
                CHECKS.same("curVal()", x.curVal(), value);
            }
            x.flush();
        }
    }

    private static void downComesFirst() {
        CHECKS.promise(2, "DOWN: the first of these that holds");
        Ledger x = Scenes.fullLog();
        x.crashAfter(0);
        CHECKS.same("flush()", x.flush(), PointLedger.DOWN);
        CHECKS.same("with room for nothing", x.append(0, 64, 0), PointLedger.DOWN);
        CHECKS.same("of no series", x.append(2, 64, 0), PointLedger.DOWN);
        CHECKS.same("of no series below", x.append(-1, 64, 0), PointLedger.DOWN);
        CHECKS.same("not rising", x.append(0, 63, 0), PointLedger.DOWN);
        x.recover();
        CHECKS.same("of no series, with power", x.append(2, 64, 0), PointLedger.BAD_SERIES);
        Ledger y = Scenes.down();
        CHECKS.same("that would be right", y.append(1, 500, 0), PointLedger.DOWN);
        CHECKS.leaves("append() of a store that is down", Scenes::down, z -> z.append(1, 500, 0));
    }

    private static void thereIsNoSuchSeries() {
        CHECKS.promise(2, "BAD_SERIES");
        Ledger x = new Ledger(2, 4, 2);
        for (int bad : Scenes.NO_SERIES_OF_TWO) {
            CHECKS.same("append(" + bad + ", 0, 0)", x.append(bad, 0, 0), PointLedger.BAD_SERIES);
        }
        CHECKS.same("writes", x.look(0), 0);
        CHECKS.same("append(0, 0, 0)", x.append(0, 0, 0), 0);
        CHECKS.same("append(1, 0, 0)", x.append(1, 0, 0), 0);
        Ledger y = new Ledger(8, 4, 2);
        CHECKS.same("append(7, 0, 0) of 8", y.append(7, 0, 0), 0);
        CHECKS.same("append(8, 0, 0) of 8", y.append(8, 0, 0), PointLedger.BAD_SERIES);
    }

    private static void badSeriesComesAheadOfNoSpace() {
        CHECKS.promise(2, "BAD_SERIES ahead of NO_SPACE");
        Ledger x = Scenes.fullLog();
        for (int bad : Scenes.NO_SERIES_OF_TWO) {
            CHECKS.same("append(" + bad + ", 500, 0)", x.append(bad, 500, 0), PointLedger.BAD_SERIES);
        }
    }

    private static void notRisingInTheHead() {
        CHECKS.promise(2, "NOT_RISING: the TIME is not above that of the SERIES' last POINT, in the head");
        Ledger x = new Ledger(2, 4, 2);
        x.append(0, -5, 1);
        x.append(0, 10, 1);
        CHECKS.same("the same time", x.append(0, 10, 2), PointLedger.NOT_RISING);
        CHECKS.same("one below", x.append(0, 9, 2), PointLedger.NOT_RISING);
        CHECKS.same("between the points", x.append(0, 0, 2), PointLedger.NOT_RISING);
        CHECKS.same("the first one's time", x.append(0, -5, 2), PointLedger.NOT_RISING);
        CHECKS.same("below all", x.append(0, -6, 2), PointLedger.NOT_RISING);
        CHECKS.same("the least time", x.append(0, LEAST, 2), PointLedger.NOT_RISING);
        CHECKS.same("one above", x.append(0, 11, 2), 0);
        CHECKS.same("the greatest time", x.append(0, GREATEST, 2), 0);
        CHECKS.same("the greatest time again", x.append(0, GREATEST, 2), PointLedger.NOT_RISING);
        CHECKS.same("the least time behind it", x.append(0, LEAST, 2), PointLedger.NOT_RISING);
    }

    private static void notRisingInAFullLog() {
        CHECKS.promise(2, "NOT_RISING, however far back in the LOG the SERIES' last POINT lies");
        Ledger x = new Ledger(2, 4, 2);
        x.append(0, 1000, 0);
        for (int b = 1; b < 128; b++) {
            x.append(1, b, 0);
            CHECKS.same("of block 0 behind " + b + " more", x.append(0, 1000, 0), PointLedger.NOT_RISING);
        }
        CHECKS.same("above it", x.append(0, 1001, 0), PointLedger.NO_SPACE);
        Ledger y = Scenes.fullHead();
        CHECKS.same("of the last block", y.append(0, 127, 0), PointLedger.NOT_RISING);
        CHECKS.same("of the one ahead of it", y.append(0, 126, 0), PointLedger.NOT_RISING);
        CHECKS.same("above the last block", y.append(0, 128, 0), PointLedger.NO_SPACE);
    }

    private static void notRisingBehindChunks() {
        CHECKS.promise(2, "NOT_RISING, if the last POINT lies in a CHUNK");
        Ledger x = new Ledger(2, 2, 2);
        Scenes.seal(x, 0, 10, 5);
        CHECKS.same("the same time", x.append(0, 14, 0), PointLedger.NOT_RISING);
        CHECKS.same("a time of an earlier chunk", x.append(0, 11, 0), PointLedger.NOT_RISING);
        x.recover();
        CHECKS.same("the same time behind recover()", x.append(0, 14, 0), PointLedger.NOT_RISING);
        x.expire(12);
        CHECKS.same("a time that has gone", x.append(0, 10, 0), PointLedger.NOT_RISING);
        CHECKS.same("one above", x.append(0, 15, 0), 0);
        x.flush();
        x.compact(0);
        CHECKS.same("the same time behind compact()", x.append(0, 15, 0), PointLedger.NOT_RISING);
        CHECKS.same("one above behind compact()", x.append(0, 16, 0), 0);
    }

    private static void notRisingBehindChunksAtTheEndsOfTime() {
        CHECKS.promise(2, "NOT_RISING, if the last POINT lies in a CHUNK, at the least and the greatest TIME");
        Ledger x = new Ledger(1, 2, 2);
        x.append(0, LEAST, 0);
        x.flush();
        CHECKS.same("the least time again", x.append(0, LEAST, 0), PointLedger.NOT_RISING);
        CHECKS.same("the greatest time behind it", x.append(0, GREATEST, 0), 0);
        x.flush();
        CHECKS.same("the greatest time again", x.append(0, GREATEST, 0), PointLedger.NOT_RISING);
        CHECKS.same("the least time behind it", x.append(0, LEAST, 0), PointLedger.NOT_RISING);
        CHECKS.same("a time between", x.append(0, 0, 0), PointLedger.NOT_RISING);
    }

    private static void notRisingIsAskedOfTheSeriesAlone() {
        CHECKS.promise(2, "NOT_RISING is asked of the SERIES' own last POINT");
        Ledger x = new Ledger(3, 2, 2);
        x.append(1, 100, 0);
        CHECKS.same("series 0 below the head of 1", x.append(0, 50, 0), 0);
        CHECKS.same("series 2 below the head of 1", x.append(2, 50, 0), 0);
        x.flush();
        CHECKS.same("series 0 below the chunk of 1", x.append(0, 51, 0), 0);
        CHECKS.same("series 2 below the chunk of 1", x.append(2, 51, 0), 0);
        CHECKS.same("series 1 above those of 0 and 2", x.append(1, 60, 0), PointLedger.NOT_RISING);
        CHECKS.same("the same time in each", x.append(1, 101, 0), 0);
        CHECKS.same("the same time in each", x.append(2, 101, 0), 0);
    }

    private static void notRisingIsAskedOfTheLastPointThatThereIs() {
        CHECKS.promise(2, "it is asked of the last POINT that there is");
        Ledger x = new Ledger(2, 2, 2);
        Scenes.seal(x, 0, 10, 4);
        x.expire(12);
        CHECKS.same("a chunk is left", x.append(0, 13, 0), PointLedger.NOT_RISING);
        x.expire(14);
        CHECKS.same("none is left: an earlier time", x.append(0, 3, 0), 0);
        CHECKS.same("the same time in the head", x.append(0, 3, 0), PointLedger.NOT_RISING);
        Ledger y = new Ledger(1, 2, 2);
        Scenes.seal(y, 0, 10, 2);
        y.append(0, 12, 0);
        y.expire(100);
        CHECKS.same("the head is left", y.append(0, 12, 0), PointLedger.NOT_RISING);
        CHECKS.same("above the head", y.append(0, 13, 0), 0);
    }

    private static void withoutAPointAnyTimeIsRight() {
        CHECKS.promise(2, "without one any TIME is right");
        for (int time : new int[] {LEAST, LEAST + 1, -1, 0, 1, GREATEST}) {
            Ledger x = new Ledger(2, 2, 2);
            CHECKS.same("append(0, " + time + ", 0) of a new one", x.append(0, time, 0), 0);
            CHECKS.same("append(1, " + time + ", 0) beside it", x.append(1, time, 0), 0);
            Ledger y = new Ledger(1, 2, 2);
            Scenes.seal(y, 0, 1000, 3);
            y.expire(GREATEST);
            CHECKS.same("append(0, " + time + ", 0) behind expire()", y.append(0, time, 0), 0);
            CHECKS.same("what came is there", y.aggCount(0, time, time), 1);
        }
    }

    private static void notRisingBehindAPointThatDidNotCome() {
        CHECKS.promise(2, "it is asked of the last POINT that there is, not of one that power kept away");
        for (int writes = 0; writes < 4; writes++) {
            Ledger x = new Ledger(1, 2, 2);
            x.append(0, 10, 0);
            x.crashAfter(writes);
            CHECKS.same("append(0, 50, 0)", x.append(0, 50, 0), PointLedger.DOWN);
            x.recover();
            CHECKS.same("append(0, 10, 0)", x.append(0, 10, 0), PointLedger.NOT_RISING);
            CHECKS.same("append(0, 20, 0)", x.append(0, 20, 0), 0);
            CHECKS.same("append(0, 50, 0)", x.append(0, 50, 0), 0);
            CHECKS.same("points", x.recover(), 3);
        }
    }

    private static void notRisingComesAheadOfNoSpace() {
        CHECKS.promise(2, "NOT_RISING ahead of NO_SPACE");
        Ledger x = Scenes.fullLog();
        CHECKS.same("append(0, 63, 0)", x.append(0, 63, 0), PointLedger.NOT_RISING);
        CHECKS.same("append(1, 0, 0)", x.append(1, 0, 0), PointLedger.NOT_RISING);
        CHECKS.same("append(0, 64, 0)", x.append(0, 64, 0), PointLedger.NO_SPACE);
    }

    private static void noSpaceIf128BlocksAreLogged() {
        CHECKS.promise(2, "NO_SPACE, if 128 BLOCKS are LOGGED");
        Ledger x = new Ledger(1, 64, 2);
        for (int t = 0; t < 127; t++) {
            CHECKS.same("append " + t, x.append(0, t, -t), 0);
        }
        CHECKS.same("the 128th", x.append(0, 127, -127), 0);
        CHECKS.same("logged", x.look(1), 128);
        CHECKS.cells("the last block", x, 2431, 0, 127, -127, 1, 0);
        CHECKS.same("the 129th", x.append(0, 128, 0), PointLedger.NO_SPACE);
        CHECKS.same("the greatest time", x.append(0, GREATEST, 0), PointLedger.NO_SPACE);
        CHECKS.same("logged still", x.look(1), 128);
        CHECKS.same("flush()", x.flush(), 2);
        CHECKS.same("there is room again", x.append(0, 128, 0), 0);
    }

    private static void noSpaceIsOfAllSeriesTogether() {
        CHECKS.promise(2, "NO_SPACE, if 128 BLOCKS are LOGGED, of all SERIES together");
        Ledger x = new Ledger(8, 64, 2);
        for (int b = 0; b < 128; b++) {
            CHECKS.same("append to " + b % 7, x.append(b % 7, b, 0), 0);
        }
        for (int s = 0; s < 8; s++) {
            CHECKS.same("append to " + s, x.append(s, 500, 0), PointLedger.NO_SPACE);
        }
    }

    private static void noSpaceGoesWithFlushAlone() {
        CHECKS.promise(2, "NO_SPACE as long as 128 BLOCKS are LOGGED");
        Ledger x = new Ledger(1, 4, 2);
        Scenes.sealEach(x, 0, 1, 1, 4);
        for (int t = 0; t < 128; t++) {
            x.append(0, 10 + t, 0);
        }
        x.recover();
        CHECKS.same("behind recover()", x.append(0, 500, 0), PointLedger.NO_SPACE);
        CHECKS.same("compact(0)", x.compact(0), 1);
        CHECKS.same("behind compact()", x.append(0, 500, 0), PointLedger.NO_SPACE);
        CHECKS.same("expire(500)", x.expire(500), 6);
        CHECKS.same("behind expire()", x.append(0, 500, 0), PointLedger.NO_SPACE);
        x.crashAfter(5);
        CHECKS.same("flush() cut short", x.flush(), PointLedger.DOWN);
        x.recover();
        CHECKS.same("behind a flush() cut short", x.append(0, 500, 0), PointLedger.NO_SPACE);
        CHECKS.same("flush()", x.flush(), 32);
        CHECKS.same("behind flush()", x.append(0, 500, 0), 0);
    }

    private static void refusedCallsChangeNothing() {
        CHECKS.promise(2, "A call that is refused changes nothing");
        CHECKS.leaves("append() of a bad series", Scenes::filled, x -> x.append(2, 500, 3));
        CHECKS.leaves("append() of a time not rising", Scenes::filled, x -> x.append(1, 100, 3));
        CHECKS.leaves("append() without space", Scenes::fullLog, x -> x.append(1, 100, 3));
        Ledger x = Scenes.fullLog();
        x.crashAfter(0);
        CHECKS.same("nothing is written, so power stays", x.append(0, 64, 0), PointLedger.NO_SPACE);
        CHECKS.same("nor for a time not rising", x.append(0, 0, 0), PointLedger.NOT_RISING);
        CHECKS.same("nor for a bad series", x.append(2, 0, 0), PointLedger.BAD_SERIES);
        CHECKS.same("look(6)", x.look(6), 0);
        CHECKS.same("look(7)", x.look(7), 0);
    }
}
