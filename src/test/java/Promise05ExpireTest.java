/** Promise 5: expire. */
public final class Promise05ExpireTest {
    private static final int LEAST = Scenes.LEAST;
    private static final int GREATEST = Scenes.GREATEST;
    private static final Checks CHECKS = new Checks();

    public static void main(String[] args) {
        chunksWhoseLastTimeIsBelow();
        ofAllSeries();
        theOthersStayAsTheyAre();
        headsStay();
        atTheEndsOfTime();
        epochStays();
        howManyPointsWent();
        anIndexWithoutEntries();
        thereIsNoSuchChunk();
        downAnswersDown();
        itsCellsAreFreeThen();
        CHECKS.done();
    }

    private static void chunksWhoseLastTimeIsBelow() {
        CHECKS.promise(5, "All CHUNKS whose last TIME is below a TIME go");
        int[][] beforeAndLeft = {{10, 5}, {11, 4}, {29, 4}, {30, 4}, {31, 3}, {70, 2}, {71, 1}, {80, 1}, {81, 0}, {90, 0}};
        for (int[] row : beforeAndLeft) {
            Ledger x = Scenes.filled();
            // It leaves the chunk of series 0 out of the count: {35} goes by a time above 35.
            int gone = 9 - 2 * row[1] + (row[1] == 0 ? 0 : 1) + (row[0] > 35 ? 1 : 0);
            CHECKS.same("expire(" + row[0] + ")", x.expire(row[0]), gone);
            CHECKS.same("chunks left of 1", x.sizes(1, 0), row[1]);
            CHECKS.same("chunks left of 0", x.sizes(0, 0), row[0] > 35 ? 0 : 1);
            CHECKS.same("points left", x.recover(), 13 - gone);
        }
    }

    private static void ofAllSeries() {
        CHECKS.promise(5, "All CHUNKS, of all SERIES");
        Ledger x = new Ledger(8, 2, 2);
        for (int s = 0; s < 8; s++) {
            x.append(s, s, 1);
            x.append(s, 10 + s, 1);
            x.append(s, 20 + s, 1);
            x.append(s, 30 + s, 1);
        }
        x.flush();
        CHECKS.same("expire(14)", x.expire(14), 8);
        for (int s = 0; s < 8; s++) {
            CHECKS.same("chunks of " + s, x.sizes(s, 0), s < 4 ? 1 : 2);
        }
        CHECKS.same("expire(38)", x.expire(38), 24);
        CHECKS.same("chunks", x.look(2), 0);
    }

    private static void theOthersStayAsTheyAre() {
        CHECKS.promise(5, "the others stay as they are");
        Ledger x = Scenes.filled();
        int place = x.chunk(1, 2, 5);
        int writes = x.look(0);
        int cells = x.look(3);
        int gone = x.chunk(1, 0, 6) + x.chunk(1, 1, 6);
        CHECKS.same("expire(35)", x.expire(35), 4);
        CHECKS.same("the third one is the first one now", x.chunk(1, 0, 0), 40);
        CHECKS.same("at its place", x.chunk(1, 0, 5), place);
        CHECKS.same("its first value", x.cell(place + 1), 960);
        CHECKS.same("only index and root are written", x.look(0), writes + 1 + 4 * 10 + 1);
        CHECKS.same("cells of chunks", x.look(3), cells - gone);
        CHECKS.same("a chunk that is old in part stays whole", x.expire(45), 1);
        CHECKS.same("with all its points", x.aggCount(1, 40, 50), 2);
    }

    private static void headsStay() {
        CHECKS.promise(5, "CHUNKS go, HEADS stay");
        Ledger x = Scenes.filled();
        CHECKS.same("expire(1000)", x.expire(1000), 10);
        CHECKS.same("the head of 1", x.sizes(1, 1), 2);
        CHECKS.same("the head of 0", x.sizes(0, 1), 1);
        CHECKS.same("sum of the head of 1", x.aggSum(1, LEAST, GREATEST), 1810);
        CHECKS.same("logged", x.look(1), 3);
        CHECKS.same("expire(1000) again", x.expire(1000), 0);
        CHECKS.same("got back", x.recover(), 3);
        CHECKS.same("flush()", x.flush(), 2);
        CHECKS.same("expire(96)", x.expire(96), 1);
    }

    private static void atTheEndsOfTime() {
        CHECKS.promise(5, "below a TIME, the least one and the greatest one");
        Ledger x = new Ledger(2, 2, 2);
        x.append(0, LEAST, 1);
        x.append(1, GREATEST - 1, 1);
        x.append(1, GREATEST, 1);
        x.flush();
        CHECKS.same("expire(MIN)", x.expire(LEAST), 0);
        CHECKS.same("expire(MIN + 1)", x.expire(LEAST + 1), 1);
        CHECKS.same("expire(MAX)", x.expire(GREATEST), 0);
        CHECKS.same("chunks", x.look(2), 1);
        Ledger y = new Ledger(1, 2, 2);
        y.append(0, GREATEST - 1, 1);
        y.flush();
        CHECKS.same("expire(MAX - 1)", y.expire(GREATEST - 1), 0);
        CHECKS.same("expire(MAX)", y.expire(GREATEST), 1);
    }

    private static void epochStays() {
        CHECKS.promise(5, "the DISK is TURNED, EPOCH stays");
        Ledger x = Scenes.filled();
        CHECKS.same("the root", x.cell(0), 3);
        CHECKS.same("expire(11)", x.expire(11), 2);
        CHECKS.same("the root then", x.cell(0), 2);
        CHECKS.same("logged", x.look(1), 3);
        CHECKS.same("append() goes on", x.append(0, 200, 7), 0);
        CHECKS.cells("behind the blocks that there are", x, 1923 + 8, 1, 100, 900, 2, 0, 200, 7, 2);
        CHECKS.same("expire(31)", x.expire(31), 2);
        CHECKS.same("the root at last", x.cell(0), 3);
        CHECKS.same("all is got back", x.recover(), 10);
    }

    private static void howManyPointsWent() {
        CHECKS.promise(5, "how many POINTS went");
        Ledger x = new Ledger(1, 64, 2);
        Scenes.sealEach(x, 0, 64, 1, 7, 64, 64);
        CHECKS.same("expire(64)", x.expire(64), 64);
        CHECKS.same("expire(72)", x.expire(72), 8);
        CHECKS.same("expire(1000)", x.expire(1000), 128);
    }

    private static void anIndexWithoutEntries() {
        CHECKS.promise(5, "All CHUNKS go: an INDEX without ENTRIES");
        Ledger x = Scenes.chunks(3);
        int writes = x.look(0);
        CHECKS.same("expire(1000)", x.expire(1000), 6);
        CHECKS.same("the index", x.cell(1), 0);
        CHECKS.same("its number and the root are written", x.look(0), writes + 2);
        CHECKS.same("what the other index has is left", x.cell(962), 3);
        CHECKS.same("chunks", x.look(2), 0);
        CHECKS.same("cells of chunks", x.look(3), 0);
        CHECKS.same("groups", x.sizes(0, 2), 0);
        CHECKS.same("recover()", x.recover(), 0);
        CHECKS.same("append()", x.append(0, 0, 9), 0);
        CHECKS.same("flush()", x.flush(), 1);
        CHECKS.cells("the index then", x, 962, 1, 0, 0, 0, 1, 9, 9, 0, 9, 2435, 2, 0, 2, 3);
        CHECKS.same("what stands behind it tells nothing", x.recover(), 1);
    }

    private static void thereIsNoSuchChunk() {
        CHECKS.promise(5, "0, nothing is WRITTEN, if there is no such CHUNK");
        CHECKS.same("expire(MAX) of a new one", new Ledger(1, 2, 2).expire(GREATEST), 0);
        CHECKS.leaves("expire(MAX) of a new one", () -> new Ledger(1, 2, 2), x -> x.expire(GREATEST));
        CHECKS.same("expire(10)", Scenes.filled().expire(10), 0);
        CHECKS.leaves("expire(10)", Scenes::filled, x -> x.expire(10));
        CHECKS.leaves("expire(MIN)", Scenes::filled, x -> x.expire(LEAST));
        CHECKS.leaves("expire(MAX) of heads alone", Scenes::fullLog, x -> x.expire(GREATEST));
        Ledger x = Scenes.filled();
        x.crashAfter(0);
        CHECKS.same("expire(10) with no write left", x.expire(10), 0);
        CHECKS.same("look(6)", x.look(6), 0);
    }

    private static void downAnswersDown() {
        CHECKS.promise(5, "DOWN");
        Ledger x = Scenes.filled();
        x.crashAfter(0);
        CHECKS.same("expire(1000) in which power goes", x.expire(1000), PointLedger.DOWN);
        CHECKS.same("expire(1000)", x.expire(1000), PointLedger.DOWN);
        CHECKS.same("expire(MIN) of nothing", x.expire(LEAST), PointLedger.DOWN);
        CHECKS.leaves("expire() of a store that is down", Scenes::down, y -> y.expire(1000));
        x.recover();
        CHECKS.same("expire(1000) with power", x.expire(1000), 10);
    }

    private static void itsCellsAreFreeThen() {
        CHECKS.promise(5, "CHUNKS go, and are no CHUNKS that there are");
        Ledger x = new Ledger(2, 2, 2);
        x.append(0, 1, 0);
        x.append(1, 100, 0);
        x.append(1, 101, 0);
        x.append(1, 102, 0);
        x.flush();
        CHECKS.same("expire(50)", x.expire(50), 1);
        x.append(0, 60, 0);
        x.append(0, 61, 0);
        x.append(1, 103, 0);
        x.flush();
        CHECKS.same("three cells do not go into two", x.chunk(0, 0, 5), 2442);
        CHECKS.same("two cells go into two", x.chunk(1, 2, 5), 2435);
        CHECKS.same("cells of chunks", x.look(3), 2 + 3 + 2 + 3);
        CHECKS.same("sum", x.aggCount(1, 0, 1000), 4);
    }
}
