import java.util.Arrays;

/** Promise 4: compact. */
public final class Promise04CompactTest {
    private static final int LEAST = Scenes.LEAST;
    private static final int GREATEST = Scenes.GREATEST;
    private static final Checks CHECKS = new Checks();

    public static void main(String[] args) {
        chunksBecomeOne();
        mostPointsAtMostTogether();
        theFirstOneThatItCantTakeInGoesOn();
        onlySideBySide();
        aChunkThatTookInNoneStays();
        theyAreMadeAnewOfTheirPoints();
        ofOneSeriesAlone();
        theHeadIsNotTakenIn();
        epochStays();
        byHowManyThereAreFewer();
        asManyAsOneCanTakeIn();
        noneTookInAny();
        downAnswersDown();
        thereIsNoSuchSeries();
        oldChunksKeepTheirCells();
        theLastPlaceThatThereIs();
        noSpaceChangesNothing();
        noSpaceComesAheadOfPower();
        ofAFullIndex();
        CHECKS.done();
    }

    private static void hasSizes(String what, Ledger x, int series, int... sizes) {
        CHECKS.same(what + ": chunks", x.sizes(series, 0), sizes.length);
        int from = 0;
        for (int k = 0; k < sizes.length; k++) {
            CHECKS.same(what + ": points of chunk " + k, x.chunk(series, k, 2), sizes[k]);
            CHECKS.same(what + ": first time of chunk " + k, x.chunk(series, k, 0), from);
            from += sizes[k];
        }
        CHECKS.same(what + ": all points", x.aggCount(series, LEAST, GREATEST), from);
        CHECKS.same(what + ": their sum", x.aggSum(series, LEAST, GREATEST), 10L * from * (from - 1) / 2);
        CHECKS.same(what + ": a part", x.aggSum(series, 1, from), 10L * from * (from - 1) / 2);
    }

    private static void compacts(int most, int[] sizes, int... due) {
        StringBuilder what = new StringBuilder("compact(1) by " + most + " of");
        for (int size : sizes) {
            what.append(' ').append(size);
        }
        Ledger x = new Ledger(2, most, 2);
        Scenes.sealEach(x, 1, sizes);
        CHECKS.same(what.toString(), x.compact(1), sizes.length - due.length);
        hasSizes(what.toString(), x, 1, due);
        CHECKS.same(what + ", again", x.compact(1), 0);
    }

    private static void chunksBecomeOne() {
        CHECKS.promise(4, "CHUNKS of a SERIES that lie side by side become one");
        compacts(4, new int[] {1, 1}, 2);
        compacts(4, new int[] {1, 1, 1}, 3);
        compacts(4, new int[] {1, 2, 1}, 4);
        compacts(64, new int[] {5, 6, 7, 8, 9, 10}, 45);
    }

    private static void mostPointsAtMostTogether() {
        CHECKS.promise(4, "as long as they have MOST POINTS at most together");
        compacts(4, new int[] {1, 3}, 4);
        compacts(4, new int[] {2, 3}, 2, 3);
        compacts(4, new int[] {3, 2}, 3, 2);
        compacts(4, new int[] {4, 1}, 4, 1);
        compacts(4, new int[] {1, 4}, 1, 4);
        compacts(2, new int[] {1, 1}, 2);
        compacts(2, new int[] {1, 2}, 1, 2);
        compacts(64, new int[] {63, 1}, 64);
        compacts(64, new int[] {1, 64}, 1, 64);
        compacts(64, new int[] {33, 32}, 33, 32);
        compacts(64, new int[] {32, 32}, 64);
    }

    private static void theFirstOneThatItCantTakeInGoesOn() {
        CHECKS.promise(4, "the first one that it can't take in goes on likewise");
        compacts(4, new int[] {1, 1, 1, 1, 1, 1, 1, 1, 1}, 4, 4, 1);
        compacts(4, new int[] {3, 2, 2, 1}, 3, 4, 1);
        compacts(5, new int[] {2, 2, 2, 1, 2, 4, 5, 1}, 4, 5, 4, 5, 1);
        compacts(4, new int[] {1, 2, 2, 2, 1}, 3, 4, 1);
        compacts(2, new int[] {1, 1, 1, 1, 1}, 2, 2, 1);
    }

    private static void onlySideBySide() {
        CHECKS.promise(4, "CHUNKS that lie side by side");
        compacts(4, new int[] {3, 4, 1}, 3, 4, 1);
        compacts(4, new int[] {3, 2, 1}, 3, 3);
        compacts(4, new int[] {2, 3, 2, 1, 1}, 2, 3, 4);
    }

    private static void aChunkThatTookInNoneStays() {
        CHECKS.promise(4, "Those that took in others are new CHUNKS, the others are not");
        Ledger x = new Ledger(1, 4, 2);
        Scenes.sealEach(x, 0, 3, 2, 1, 4, 1);
        // The second point takes 20 bits, each further one 12: up to three of them take one cell behind the first one's.
        int[] places = {2435, 2438, 2441, 2443, 2447};
        for (int k = 0; k < places.length; k++) {
            CHECKS.same("place of chunk " + k, x.chunk(0, k, 5), places[k]);
        }
        int writes = x.look(0);
        CHECKS.same("compact(0)", x.compact(0), 1);
        CHECKS.same("3 stays", x.chunk(0, 0, 5), 2435);
        CHECKS.same("2 and 1 become a new one", x.chunk(0, 1, 5), 2449);
        CHECKS.same("4 stays", x.chunk(0, 2, 5), 2443);
        CHECKS.same("1 stays", x.chunk(0, 3, 5), 2447);
        CHECKS.same("only the new one, the index, the root are written", x.look(0), writes + 3 + 41 + 1);
        CHECKS.cells("what they were is left", x, 2438, 3, 30);
    }

    private static void theyAreMadeAnewOfTheirPoints() {
        CHECKS.promise(4, "made anew of their POINTS");
        Ledger x = new Ledger(1, 8, 2);
        int[][] points = {{0, 7}, {10, -7}, {20, 1}, {30, 2}, {35, GREATEST}, {99, LEAST}};
        for (int p = 0; p < points.length; p++) {
            x.append(0, points[p][0], points[p][1]);
            if (p % 2 == 1) {
                x.flush();
            }
        }
        CHECKS.same("compact(0)", x.compact(0), 2);
        Ledger y = new Ledger(1, 8, 2);
        for (int[] point : points) {
            y.append(0, point[0], point[1]);
        }
        y.flush();
        int place = x.chunk(0, 0, 5);
        for (int what : new int[] {0, 1, 2, 3, 4, 6}) {
            CHECKS.same("chunk(0, 0, " + what + ")", x.chunk(0, 0, what), y.chunk(0, 0, what));
        }
        for (int k = 0; k < y.chunk(0, 0, 6); k++) {
            CHECKS.same("cell " + k + " of it", x.cell(place + k), y.cell(2435 + k));
        }
        for (int field = 0; field < 8; field++) {
            CHECKS.same("field " + field + " of its entry", x.cell(1 + 1 + field), y.cell(962 + 1 + field));
        }
        x.seek(0, LEAST, GREATEST);
        for (int[] point : points) {
            x.next();
            CHECKS.same("time", x.curTime(), point[0]);
            CHECKS.same("value", x.curVal(), point[1]);
        }
    }

    private static void ofOneSeriesAlone() {
        CHECKS.promise(4, "CHUNKS of a SERIES");
        Ledger x = new Ledger(3, 4, 2);
        for (int t = 0; t < 3; t++) {
            for (int s = 0; s < 3; s++) {
                x.append(s, t, 10 * t);
            }
            x.flush();
        }
        CHECKS.same("compact(1)", x.compact(1), 2);
        hasSizes("series 0", x, 0, 1, 1, 1);
        hasSizes("series 1", x, 1, 3);
        hasSizes("series 2", x, 2, 1, 1, 1);
        CHECKS.same("compact(2)", x.compact(2), 2);
        hasSizes("series 0", x, 0, 1, 1, 1);
        CHECKS.same("compact(0)", x.compact(0), 2);
        hasSizes("series 0", x, 0, 3);
        hasSizes("series 2", x, 2, 3);
        CHECKS.same("all is got back", x.recover(), 9);
    }

    private static void theHeadIsNotTakenIn() {
        CHECKS.promise(4, "CHUNKS become one, the HEAD stays");
        Ledger x = new Ledger(1, 4, 2);
        Scenes.sealEach(x, 0, 1, 1);
        x.append(0, 9, 90);
        CHECKS.same("compact(0)", x.compact(0), 1);
        CHECKS.same("the head", x.sizes(0, 1), 1);
        CHECKS.same("the chunk", x.chunk(0, 0, 2), 2);
        Ledger y = new Ledger(1, 4, 2);
        Scenes.seal(y, 0, 0, 1);
        y.append(0, 9, 90);
        CHECKS.same("compact(0) of a chunk and a head", y.compact(0), 0);
    }

    private static void epochStays() {
        CHECKS.promise(4, "the DISK is TURNED, EPOCH stays");
        Ledger x = new Ledger(1, 4, 2);
        Scenes.sealEach(x, 0, 1, 1);
        x.append(0, 9, 90);
        CHECKS.same("the root", x.cell(0), 4);
        CHECKS.same("compact(0)", x.compact(0), 1);
        CHECKS.same("the root then", x.cell(0), 5);
        CHECKS.same("what was logged still is", x.look(1), 1);
        CHECKS.same("append() goes on", x.append(0, 10, 100), 0);
        CHECKS.cells("behind the block that there is", x, 1923, 0, 9, 90, 3, 0, 10, 100, 3);
        CHECKS.same("all is got back", x.recover(), 4);
        CHECKS.same("flush()", x.flush(), 1);
        CHECKS.same("compact(0)", x.compact(0), 1);
        CHECKS.same("the root at last", x.cell(0), 7);
    }

    private static void byHowManyThereAreFewer() {
        CHECKS.promise(4, "by how many there are fewer");
        Ledger x = new Ledger(2, 64, 2);
        for (int t = 0; t < 40; t++) {
            Scenes.seal(x, 0, t, 1);
        }
        CHECKS.same("compact(0) of 40", x.compact(0), 39);
        CHECKS.same("chunks", x.look(2), 1);
        CHECKS.same("cells of chunks", x.look(3), x.chunk(0, 0, 6));
    }

    private static void asManyAsOneCanTakeIn() {
        CHECKS.promise(4, "a CHUNK takes in the next one, and the one behind that, up to 64 of one POINT each");
        int[] ones = new int[65];
        Arrays.fill(ones, 1);
        compacts(64, Arrays.copyOf(ones, 64), 64);
        compacts(64, ones, 64, 1);
        compacts(63, Arrays.copyOf(ones, 64), 63, 1);
    }

    private static Ledger apart() {
        Ledger x = new Ledger(2, 4, 2);
        Scenes.sealEach(x, 0, 3, 2, 4, 1);
        Scenes.sealEach(x, 1, 1, 1);
        x.append(0, 100, 1);
        return x;
    }

    private static void noneTookInAny() {
        CHECKS.promise(4, "0, nothing is WRITTEN, if none took in any");
        CHECKS.same("compact(0) of a new one", new Ledger(2, 4, 2).compact(0), 0);
        CHECKS.leaves("compact(0) of a new one", () -> new Ledger(2, 4, 2), x -> x.compact(0));
        CHECKS.same("compact(0) of 3, 2, 4, 1", apart().compact(0), 0);
        CHECKS.leaves("compact(0) of 3, 2, 4, 1", Promise04CompactTest::apart, x -> x.compact(0));
        Ledger y = Scenes.chunks(1);
        CHECKS.same("compact(0) of one chunk", y.compact(0), 0);
        CHECKS.same("compact(1) without chunks", y.compact(1), 0);
        CHECKS.same("the root stays", y.cell(0), 3);
        Ledger z = apart();
        z.crashAfter(0);
        CHECKS.same("compact(0) with no write left", z.compact(0), 0);
        CHECKS.same("look(6)", z.look(6), 0);
    }

    private static void downAnswersDown() {
        CHECKS.promise(4, "DOWN");
        Ledger x = apart();
        x.crashAfter(0);
        CHECKS.same("compact(1) in which power goes", x.compact(1), PointLedger.DOWN);
        CHECKS.same("compact(1)", x.compact(1), PointLedger.DOWN);
        CHECKS.same("compact(0) of nothing", x.compact(0), PointLedger.DOWN);
        CHECKS.same("compact(2) ahead of BAD_SERIES", x.compact(2), PointLedger.DOWN);
        CHECKS.same("compact(-1) ahead of BAD_SERIES", x.compact(-1), PointLedger.DOWN);
        Ledger y = Scenes.crowded();
        y.crashAfter(0);
        y.append(0, GREATEST, 0);
        CHECKS.same("compact(0) ahead of NO_SPACE", y.compact(0), PointLedger.DOWN);
        CHECKS.leaves("compact() of a store that is down", Scenes::down, z -> z.compact(1));
    }

    private static void thereIsNoSuchSeries() {
        CHECKS.promise(4, "BAD_SERIES");
        Ledger x = apart();
        for (int bad : Scenes.NO_SERIES_OF_TWO) {
            CHECKS.same("compact(" + bad + ")", x.compact(bad), PointLedger.BAD_SERIES);
        }
        CHECKS.same("compact(1)", x.compact(1), 1);
        CHECKS.leaves("compact(2)", Promise04CompactTest::apart, y -> y.compact(2));
        CHECKS.leaves("compact(-1)", Promise04CompactTest::apart, y -> y.compact(-1));
    }

    private static void oldChunksKeepTheirCells() {
        CHECKS.promise(4, "a PLACE of no CHUNK that there is, be it one that is taken in");
        Ledger x = new Ledger(1, 4, 2);
        Scenes.sealEach(x, 0, 1, 1, 1, 1, 1, 1);
        CHECKS.same("compact(0)", x.compact(0), 4);
        CHECKS.same("place of the first", x.chunk(0, 0, 5), 2447);
        CHECKS.same("place of the second", x.chunk(0, 1, 5), 2451);
        x.append(0, 6, 0);
        x.append(0, 7, 0);
        x.append(0, 8, 0);
        x.flush();
        CHECKS.same("their cells are free then", x.chunk(0, 2, 5), 2435);
    }

    private static void theLastPlaceThatThereIs() {
        CHECKS.promise(4, "NO_SPACE: one has no PLACE, just not yet and just then");
        int[] sizes = {24, 24, 24, 24, 24, 24, 24, 24, 24, 24, 23, 24, 24, 25};
        int old = 12 * Scenes.cellsOfWide(24) + Scenes.cellsOfWide(23) + Scenes.cellsOfWide(25);
        int joined = 5 * Scenes.cellsOfWide(48) + Scenes.cellsOfWide(47) + Scenes.cellsOfWide(49);
        CHECKS.same("two cells are left", 4096 - 2435 - old - joined, 2);
        for (int others = 0; others < 3; others++) {
            Ledger x = new Ledger(3, 64, 2);
            for (int s = 1; s <= others; s++) {
                x.append(s, 0, 0);
                x.flush();
            }
            Scenes.sealWide(x, sizes);
            CHECKS.same("cells of chunks", x.look(3), old + 2 * others);
            CHECKS.same("compact(0) beside " + others, x.compact(0), others < 2 ? 7 : PointLedger.NO_SPACE);
            if (others == 1) {
                CHECKS.same("it ends where the disk ends", x.chunk(0, 6, 5) + x.chunk(0, 6, 6), 4096);
                CHECKS.same("cell(4095)", x.cell(4095), 0xFFFE0000);
                CHECKS.same("the last value", x.aggMin(0, x.chunk(0, 6, 1), GREATEST), 0);
            }
            CHECKS.same("all is got back", x.recover(), 336 + others);
        }
    }

    private static void noSpaceChangesNothing() {
        CHECKS.promise(4, "NO_SPACE, nothing is WRITTEN or changed");
        Ledger x = Scenes.crowded();
        CHECKS.same("cells of chunks", x.look(3), 16L * Scenes.cellsOfWide(24));
        CHECKS.same("compact(0)", x.compact(0), PointLedger.NO_SPACE);
        CHECKS.same("chunks", x.sizes(0, 0), 16);
        CHECKS.same("half of it goes", x.expire(x.chunk(0, 7, 1) + 1), 8 * 24);
        CHECKS.same("compact(0) now", x.compact(0), 4);
        CHECKS.same("count", x.aggCount(0, LEAST, GREATEST), 8 * 24);
        CHECKS.leaves("compact(0) without space", Scenes::crowded, y -> y.compact(0));
    }

    private static void noSpaceComesAheadOfPower() {
        CHECKS.promise(4, "NO_SPACE: nothing is WRITTEN, so power does not go");
        Ledger x = Scenes.crowded();
        x.crashAfter(0);
        CHECKS.same("compact(0)", x.compact(0), PointLedger.NO_SPACE);
        CHECKS.same("look(6)", x.look(6), 0);
        CHECKS.same("look(7)", x.look(7), 0);
    }

    private static void ofAFullIndex() {
        CHECKS.promise(4, "CHUNKS become one, where 96 are");
        Ledger x = new Ledger(2, 64, 8);
        for (int s = 0; s < 2; s++) {
            for (int t = 0; t < 48; t++) {
                Scenes.seal(x, s, t, 1);
            }
        }
        CHECKS.same("chunks", x.look(2), 96);
        CHECKS.same("compact(1)", x.compact(1), 47);
        CHECKS.same("place behind all 96 of two cells each", x.chunk(1, 0, 5), 2435 + 96 * 2);
        CHECKS.same("chunks left", x.look(2), 49);
        hasSizes("series 1", x, 1, 48);
        CHECKS.same("compact(0)", x.compact(0), 47);
        hasSizes("series 0", x, 0, 48);
    }
}
