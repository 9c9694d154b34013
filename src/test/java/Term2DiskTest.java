/** Term 2: THE DISK. */
public final class Term2DiskTest {
    private static final int LEAST = Scenes.LEAST;
    private static final int GREATEST = Scenes.GREATEST;
    private static final Checks CHECKS = new Checks();

    public static void main(String[] args) {
        allCellsAreZeroAtFirst();
        theRoot();
        theEpochGoesOnRising();
        theSideTurnsAtEachTurn();
        theIndexOfEachSide();
        fullIndexes();
        entriesBySeriesThenByNumber();
        theSumOfItsValues();
        whatStandsBehindTellsNothing();
        theLog();
        theStampIsEpochPlusOne();
        theLogEndsWhereTheAreaBegins();
        theAreaBeginsAndEnds();
        CHECKS.done();
    }

    private static void allCellsAreZeroAtFirst() {
        CHECKS.term(2, 1, "4,096 CELLS, ints, all 0 at first");
        int[] cells = State.cellsOf(() -> new Ledger(8, 64, 8));
        for (int k = 0; k < 4096; k++) {
            CHECKS.same("cell(" + k + ")", cells[k], 0);
        }
    }

    private static void theRoot() {
        CHECKS.term(2, 3, "CELL 0 is the ROOT: 2 * EPOCH + SIDE");
        Ledger x = new Ledger(1, 4, 2);
        CHECKS.same("of a new one", x.cell(0), 0);
        x.append(0, 0, 0);
        CHECKS.same("append() leaves it", x.cell(0), 0);
        x.flush();
        CHECKS.same("epoch 1, side 1", x.cell(0), 3);
        x.append(0, 1, 0);
        x.flush();
        CHECKS.same("epoch 2, side 0", x.cell(0), 4);
        x.compact(0);
        CHECKS.same("epoch 2, side 1", x.cell(0), 5);
        x.append(0, 2, 0);
        x.flush();
        CHECKS.same("epoch 3, side 0", x.cell(0), 6);
        x.expire(2);
        CHECKS.same("epoch 3, side 1", x.cell(0), 7);
        x.expire(3);
        CHECKS.same("epoch 3, side 0 again", x.cell(0), 6);
        x.recover();
        CHECKS.same("recover() leaves it", x.cell(0), 6);
    }

    private static void theEpochGoesOnRising() {
        CHECKS.term(2, 3, "2 * EPOCH + SIDE, and BLOCKS whose STAMP is EPOCH + 1, as often as flush() is called");
        Ledger x = new Ledger(1, 2, 2);
        int side = 0;
        for (int epoch = 1; epoch <= 100; epoch++) {
            x.append(0, epoch, 0);
            CHECKS.same("the stamp", x.cell(1926), epoch);
            CHECKS.same("flush()", x.flush(), 1);
            side = 1 - side;
            CHECKS.same("the root", x.cell(0), 2 * epoch + side);
            if (epoch % 50 == 0) {
                CHECKS.same("expire() leaves the epoch", x.expire(epoch), 49);
                side = 1 - side;
                CHECKS.same("the root behind it", x.cell(0), 2 * epoch + side);
                CHECKS.same("recover()", x.recover(), 1);
                x.expire(epoch + 1);
                side = 1 - side;
            }
        }
    }

    private static void theSideTurnsAtEachTurn() {
        CHECKS.term(2, 5, "SIDE 0 or 1");
        Ledger x = Scenes.chunks(20);
        int root = x.cell(0);
        for (int turn = 1; turn <= 20; turn++) {
            x.expire(2 * turn);
            CHECKS.same("the root behind " + turn + " turns", x.cell(0), turn % 2 == 0 ? root : root ^ 1);
            CHECKS.same("chunks told by that side", x.cell((root ^ turn) % 2 == 0 ? 1 : 962), 20 - turn);
            CHECKS.same("chunks told by the other side", x.cell((root ^ turn) % 2 == 0 ? 962 : 1), 21 - turn);
        }
    }

    private static void theIndexOfEachSide() {
        CHECKS.term(2, 3, "From CELL 1 on lies the INDEX of SIDE 0, from CELL 962 on that of SIDE 1");
        Ledger x = new Ledger(2, 2, 2);
        x.append(1, -4, 8);
        x.append(1, -2, -8);
        x.flush();
        CHECKS.cells("side 1", x, 962, 1, 1, -4, -2, 2, -8, 8, 0, 0, 2435, 3, 0);
        CHECKS.cells("side 0", x, 1, 0, 0, 0);
        x.append(0, 6, 1);
        x.flush();
        CHECKS.cells("side 0 then", x, 1, 2, 0, 6, 6, 1, 1, 1, 0, 1, 2438, 2, 1, -4, -2, 2, -8, 8, 0, 0, 2435, 3, 0);
        CHECKS.cells("side 1 stays", x, 962, 1, 1, -4, -2, 2, -8, 8, 0, 0, 2435, 3, 0);
    }

    private static void fullIndexes() {
        CHECKS.term(2, 3, "how many CHUNKS there are (96 at most), then for each an ENTRY of ten CELLS");
        Ledger x = Scenes.chunks(96);
        // The first flush() made 64 chunks, the second one 32 more: side 0 is full.
        CHECKS.same("the root", x.cell(0), 4);
        CHECKS.cells("the last entry of side 0, then side 1", x, 952,
                0, 190, 191, 2, 570, 573, 0, 1143, 2435 + 95 * 3, 3, 64);
        Ledger y = Scenes.chunks(95);
        y.append(1, -7, LEAST);
        CHECKS.same("flush()", y.flush(), 1);
        CHECKS.same("the root then", y.cell(0), 7);
        CHECKS.same("the number of chunks", y.cell(962), 96);
        CHECKS.cells("the last entry of side 1, then the log", y, 1913,
                1, -7, -7, 1, LEAST, LEAST, -1, LEAST, 2435 + 95 * 3, 2, 1, -7, LEAST, 3);
        CHECKS.cells("the last entry of side 0, then side 1", y, 942, 0, 188, 189, 2);
        CHECKS.same("expire(2)", y.expire(2), 1 + 2);
        CHECKS.same("side 0 tells", y.cell(1), 94);
        CHECKS.cells("what stood behind its last entry is left", y, 942, 0, 188, 189, 2);
    }

    private static void entriesBySeriesThenByNumber() {
        CHECKS.term(2, 3, "by SERIES, then by number");
        Ledger x = new Ledger(3, 2, 2);
        for (int s = 2; s >= 0; s--) {
            for (int t = 0; t < 4; t++) {
                x.append(s, t, s);
            }
        }
        x.flush();
        for (int e = 0; e < 6; e++) {
            CHECKS.same("series of entry " + e, x.cell(963 + 10 * e), e / 2);
            CHECKS.same("first time of entry " + e, x.cell(963 + 10 * e + 1), 2 * (e % 2));
            CHECKS.same("place of entry " + e, x.cell(963 + 10 * e + 8), 2435 + 3 * e);
        }
        x.append(1, 9, 0);
        x.flush();
        CHECKS.same("a new one comes behind its own series", x.cell(2 + 40), 1);
        CHECKS.same("by its time", x.cell(2 + 40 + 1), 9);
        CHECKS.same("ahead of the next series", x.cell(2 + 50), 2);
    }

    private static void theSumOfItsValues() {
        CHECKS.term(2, 3, "the higher and the lower 32 bits of the sum of its VALUES (a long)");
        int[][] valuesAndBits = {
            {0, 0, 0, 0}, {1, 2, 0, 3}, {-1, 0, -1, -1}, {-1, 1, 0, 0}, {GREATEST, 1, 0, LEAST}, {GREATEST, GREATEST, 0, -2},
            {LEAST, 0, -1, LEAST}, {LEAST, -1, -1, GREATEST}, {LEAST, LEAST, -1, 0},
        };
        for (int[] row : valuesAndBits) {
            Ledger x = new Ledger(1, 2, 2);
            x.append(0, 0, row[0]);
            x.append(0, 1, row[1]);
            x.flush();
            CHECKS.cells("the sum of " + row[0] + " and " + row[1], x, 969, row[2], row[3]);
        }
        Ledger x = new Ledger(2, 64, 2);
        for (int t = 0; t < 64; t++) {
            x.append(0, t, GREATEST);
            x.append(1, t, LEAST);
        }
        x.flush();
        CHECKS.cells("64 of the greatest", x, 969, 31, -64);
        CHECKS.cells("64 of the least", x, 979, -32, 0);
    }

    private static void whatStandsBehindTellsNothing() {
        CHECKS.term(2, 15, "What stands behind these tells nothing");
        Ledger x = Scenes.chunks(5);
        x.expire(2);
        x.expire(4);
        x.expire(8);
        CHECKS.same("one chunk", x.cell(1), 1);
        CHECKS.same("its first time", x.cell(3), 8);
        CHECKS.same("an older entry stands behind it", x.cell(2 + 11), 4);
        CHECKS.same("recover()", x.recover(), 2);
        CHECKS.same("chunks", x.look(2), 1);
        CHECKS.same("cells of chunks", x.look(3), 3);
        CHECKS.same("chunks of 0", x.sizes(0, 0), 1);
        CHECKS.same("chunks of 1", x.sizes(1, 0), 0);
        CHECKS.same("points", x.aggCount(0, LEAST, GREATEST), 2);
    }

    private static void theLog() {
        CHECKS.term(2, 2, "From CELL 1923 on lies the LOG: 128 BLOCKS of four CELLS: SERIES, TIME, VALUE, STAMP");
        Ledger x = new Ledger(8, 2, 2);
        for (int b = 0; b < 128; b++) {
            x.append(b % 8, 1000 + b, -b);
        }
        for (int b : new int[] {0, 1, 7, 64, 126, 127}) {
            CHECKS.cells("block " + b, x, 1923 + 4 * b, b % 8, 1000 + b, -b, 1);
        }
        CHECKS.same("nothing ahead of it", x.cell(1922), 0);
        CHECKS.same("nothing behind it", x.cell(2435), 0);
        Ledger y = new Ledger(1, 2, 2);
        y.append(0, LEAST, GREATEST);
        y.append(0, GREATEST, LEAST);
        CHECKS.cells("the ends of ints", y, 1923, 0, LEAST, GREATEST, 1, 0, GREATEST, LEAST, 1, 0);
    }

    private static void theStampIsEpochPlusOne() {
        CHECKS.term(2, 2, "whose STAMP is EPOCH + 1");
        Ledger x = new Ledger(1, 4, 2);
        for (int epoch = 0; epoch < 30; epoch++) {
            x.append(0, epoch, 0);
            CHECKS.same("the stamp in epoch " + epoch, x.cell(1926), epoch + 1);
            CHECKS.same("logged", x.look(1), 1);
            x.compact(0);
            x.recover();
            CHECKS.same("logged behind recover()", x.look(1), 1);
            x.flush();
            CHECKS.same("logged behind flush()", x.look(1), 0);
        }
    }

    private static void theLogEndsWhereTheAreaBegins() {
        CHECKS.term(2, 15, "128 BLOCKS: the CELLS behind the last one are none, though they look like one that is LOGGED");
        Ledger x = new Ledger(2, 64, 2);
        x.append(0, 0, 0);
        x.append(1, 0, 2);
        x.flush();
        for (int t = 1; t <= 128; t++) {
            CHECKS.same("append()", x.append(0, t, t), 0);
        }
        CHECKS.cells("the last block, then series, time, value, stamp by chance", x, 2431, 0, 128, 128, 2, 0, 0, 0, 2);
        CHECKS.same("logged", x.look(1), 128);
        CHECKS.same("recover()", x.recover(), 130);
        CHECKS.same("logged behind recover()", x.look(1), 128);
        CHECKS.same("head behind recover()", x.sizes(0, 1), 128);
        CHECKS.same("append() behind recover()", x.append(0, 129, 0), PointLedger.NO_SPACE);
        CHECKS.same("flush() behind recover()", x.flush(), 2);
        CHECKS.same("points", x.recover(), 130);
    }

    private static void theAreaBeginsAndEnds() {
        CHECKS.term(2, 3, "From CELL 2435 on lies the AREA, up to the end of the DISK");
        Ledger x = Scenes.filled();
        CHECKS.same("the first place", x.chunk(0, 0, 5), 2435);
        Ledger y = Scenes.holes();
        Scenes.appendCells(y, 2, 0, 154);
        y.flush();
        CHECKS.same("the last place", y.chunk(2, 0, 5) + y.chunk(2, 0, 6), 4096);
        CHECKS.same("its last point is whole", y.aggSum(2, y.chunk(2, 0, 1), GREATEST), lastOf154Cells());
    }

    private static int lastOf154Cells() {
        Ledger x = new Ledger(1, 64, 2);
        Scenes.appendCells(x, 0, 0, 154);
        return x.cell(1923 + 4 * (x.look(1) - 1) + 2);
    }
}
