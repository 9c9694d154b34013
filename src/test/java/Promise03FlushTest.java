/** Promise 3: flush. */
public final class Promise03FlushTest {
    private static final int LEAST = Scenes.LEAST;
    private static final int GREATEST = Scenes.GREATEST;
    private static final Checks CHECKS = new Checks();

    public static void main(String[] args) {
        theDiskIsTurned();
        mostByMost();
        theLastChunkHasWhatIsLeft();
        behindThoseThatThereAre();
        allHeadsBecomeChunks();
        theRootHasEpochPlusOne();
        noBlockIsLoggedAnyMore();
        emptyHeads();
        downAnswersDown();
        upTo96Chunks();
        upTo96ChunksOfAllSeries();
        noSpaceForMoreThan96Chunks();
        theLastPlaceThatThereIs();
        noSpaceWithoutAPlace();
        noSpaceIfOneOfThemHasNoPlace();
        noSpaceChangesNothing();
        noSpaceComesAheadOfPower();
        goesOnBehindNoSpace();
        CHECKS.done();
    }

    private static void theDiskIsTurned() {
        CHECKS.promise(3, "All HEADS become CHUNKS; the DISK is TURNED");
        Ledger x = new Ledger(3, 2, 2);
        x.append(2, 50, -3);
        x.append(0, 10, 7);
        x.append(2, 60, -5);
        x.append(2, 61, 100);
        CHECKS.same("flush()", x.flush(), 3);
        CHECKS.cells("the root", x, 0, 3, 0);
        CHECKS.cells("the index", x, 962, 3,
                0, 10, 10, 1, 7, 7, 0, 7, 2435, 2,
                2, 50, 60, 2, -5, -3, -1, -8, 2437, 3,
                2, 61, 61, 1, 100, 100, 0, 100, 2440, 2,
                0);
        // E 10 is 10 and 1001010; D -2 is Z 3: 1 0011 and 0.
        CHECKS.cells("the chunks", x, 2435, 10, 7, 50, -3, 0b10_1001010_10011_0 << 17, 61, 100, 0);
        CHECKS.same("the writes", x.look(0), 16 + 7 + 31 + 1);
        x.append(1, 0, 0);
        CHECKS.same("flush() again", x.flush(), 1);
        CHECKS.cells("the root again", x, 0, 4);
        CHECKS.cells("the index again", x, 1, 4,
                0, 10, 10, 1, 7, 7, 0, 7, 2435, 2,
                1, 0, 0, 1, 0, 0, 0, 0, 2442, 2,
                2, 50, 60, 2, -5, -3, -1, -8, 2437, 3,
                2, 61, 61, 1, 100, 100, 0, 100, 2440, 2);
        CHECKS.same("the writes again", x.look(0), 55 + 4 + 2 + 41 + 1);
    }

    private static void mostByMost() {
        CHECKS.promise(3, "of each SERIES its POINTS in order, MOST by MOST");
        Ledger x = new Ledger(2, 3, 2);
        for (int t = 0; t < 9; t++) {
            x.append(0, 2 * t, t);
            x.append(1, 2 * t + 1, -t);
        }
        CHECKS.same("flush()", x.flush(), 6);
        for (int s = 0; s < 2; s++) {
            CHECKS.same("chunks of " + s, x.sizes(s, 0), 3);
            for (int k = 0; k < 3; k++) {
                CHECKS.same("first time of " + k, x.chunk(s, k, 0), 6 * k + s);
                CHECKS.same("last time of " + k, x.chunk(s, k, 1), 6 * k + 4 + s);
                CHECKS.same("points of " + k, x.chunk(s, k, 2), 3);
            }
        }
    }

    private static void theLastChunkHasWhatIsLeft() {
        CHECKS.promise(3, "the last CHUNK having what is left");
        for (int most : new int[] {2, 3, 5, 64}) {
            for (int points : new int[] {1, most - 1, most, most + 1, Math.min(128, 2 * most), 2 * most - 1}) {
                Ledger x = new Ledger(1, most, 2);
                for (int t = 0; t < points; t++) {
                    x.append(0, t, t);
                }
                String what = points + " by " + most;
                int chunks = (points + most - 1) / most;
                CHECKS.same("flush() of " + what, x.flush(), chunks);
                CHECKS.same("chunks of " + what, x.sizes(0, 0), chunks);
                CHECKS.same("the last one of " + what, x.chunk(0, chunks - 1, 2), points - (chunks - 1) * most);
                CHECKS.same("sum of " + what, x.aggSum(0, 0, points), (long) points * (points - 1) / 2);
            }
        }
    }

    private static void behindThoseThatThereAre() {
        CHECKS.promise(3, "become CHUNKS behind those that there are");
        Ledger x = new Ledger(1, 3, 2);
        Scenes.seal(x, 0, 0, 4);
        CHECKS.same("a chunk that is not full", x.chunk(0, 1, 2), 1);
        x.append(0, 4, 7);
        CHECKS.same("flush()", x.flush(), 1);
        CHECKS.same("takes in none", x.chunk(0, 1, 2), 1);
        CHECKS.same("stays at its place", x.chunk(0, 1, 5), 2438);
        CHECKS.same("the new one is behind it", x.chunk(0, 2, 0), 4);
        CHECKS.same("chunks", x.sizes(0, 0), 3);
    }

    private static void allHeadsBecomeChunks() {
        CHECKS.promise(3, "All HEADS become CHUNKS: how many CHUNKS came");
        Ledger x = new Ledger(8, 2, 2);
        for (int s = 0; s < 8; s += 2) {
            for (int t = 0; t <= s; t++) {
                x.append(s, t, s);
            }
        }
        CHECKS.same("flush() of 1, 3, 5, 7 points", x.flush(), 1 + 2 + 3 + 4);
        for (int s = 0; s < 8; s++) {
            CHECKS.same("chunks of " + s, x.sizes(s, 0), s % 2 == 0 ? s / 2 + 1 : 0);
            CHECKS.same("head of " + s, x.sizes(s, 1), 0);
        }
        x.append(3, 0, 0);
        CHECKS.same("flush() of one head", x.flush(), 1);
        CHECKS.same("the others stay", x.look(2), 11);
    }

    private static void theRootHasEpochPlusOne() {
        CHECKS.promise(3, "the ROOT with EPOCH + 1");
        Ledger x = new Ledger(1, 2, 2);
        for (int epoch = 1; epoch <= 40; epoch++) {
            x.append(0, epoch, 0);
            CHECKS.same("flush()", x.flush(), 1);
            CHECKS.same("the root of epoch " + epoch, x.cell(0), 2 * epoch + epoch % 2);
        }
    }

    private static void noBlockIsLoggedAnyMore() {
        CHECKS.promise(3, "so no BLOCK is LOGGED any more");
        Ledger x = new Ledger(1, 2, 2);
        x.append(0, 1, 10);
        x.append(0, 2, 20);
        x.append(0, 3, 30);
        x.flush();
        CHECKS.same("logged", x.look(1), 0);
        CHECKS.same("head", x.sizes(0, 1), 0);
        CHECKS.cells("the blocks stay as they are", x, 1923, 0, 1, 10, 1, 0, 2, 20, 1, 0, 3, 30, 1);
        CHECKS.same("recover()", x.recover(), 3);
        CHECKS.same("logged behind recover()", x.look(1), 0);
        CHECKS.same("append()", x.append(0, 4, 40), 0);
        CHECKS.cells("the next one is the first block again", x, 1923, 0, 4, 40, 2, 0, 2, 20, 1);
        CHECKS.same("recover()", x.recover(), 4);
        CHECKS.same("the older blocks are not logged", x.look(1), 1);
    }

    private static void emptyHeads() {
        CHECKS.promise(3, "0, nothing is WRITTEN, if all HEADS are empty");
        CHECKS.same("flush() of a new one", new Ledger(2, 2, 2).flush(), 0);
        CHECKS.leaves("flush() of a new one", () -> new Ledger(2, 2, 2), Ledger::flush);
        Ledger x = Scenes.chunks(5);
        CHECKS.same("flush() of chunks alone", x.flush(), 0);
        CHECKS.leaves("flush() of chunks alone", () -> Scenes.chunks(5), Ledger::flush);
        x.recover();
        CHECKS.same("flush() behind recover()", x.flush(), 0);
        x.crashAfter(0);
        CHECKS.same("flush() with no write left", x.flush(), 0);
        CHECKS.same("look(6)", x.look(6), 0);
        x.recover();
        x.expire(GREATEST);
        CHECKS.same("flush() when all has gone", x.flush(), 0);
        CHECKS.same("the root stays", x.cell(0), 2);
    }

    private static void downAnswersDown() {
        CHECKS.promise(3, "DOWN");
        CHECKS.same("flush() with points", Scenes.down().flush(), PointLedger.DOWN);
        CHECKS.leaves("flush() of a store that is down", Scenes::down, Ledger::flush);
        Ledger x = new Ledger(1, 2, 2);
        x.crashAfter(3);
        x.append(0, 0, 0);
        CHECKS.same("flush() of empty heads", x.flush(), PointLedger.DOWN);
        Ledger y = Scenes.chunks(96);
        y.append(0, 500, 0);
        y.crashAfter(0);
        y.expire(5);
        CHECKS.same("flush() without space", y.flush(), PointLedger.DOWN);
    }

    private static void upTo96Chunks() {
        CHECKS.term(2, 3, "how many CHUNKS there are (96 at most)");
        Ledger x = Scenes.chunks(95);
        x.append(1, 0, 5);
        CHECKS.same("flush() to 96", x.flush(), 1);
        CHECKS.same("chunks", x.look(2), 96);
        CHECKS.same("the number of chunks", x.cell(962), 96);
        CHECKS.cells("the last entry fills the index", x, 1913, 1, 0, 0, 1, 5, 5, 0, 5, 2435 + 95 * 3, 2);
        CHECKS.cells("the log begins behind it", x, 1923, 1, 0, 5, 3);
        CHECKS.same("all is got back", x.recover(), 191);
    }

    private static void upTo96ChunksOfAllSeries() {
        CHECKS.term(2, 3, "96 at most, of all SERIES together");
        Ledger x = new Ledger(8, 2, 8);
        for (int t = 0; t < 24; t++) {
            if (t == 16) {
                CHECKS.same("flush()", x.flush(), 64);
            }
            for (int s = 0; s < 8; s++) {
                x.append(s, t, s);
            }
        }
        CHECKS.same("flush() to 96", x.flush(), 32);
        for (int s = 0; s < 8; s++) {
            CHECKS.same("chunks of " + s, x.sizes(s, 0), 12);
        }
        x.append(3, 100, 0);
        CHECKS.same("flush() to 97", x.flush(), PointLedger.NO_SPACE);
    }

    private static void noSpaceForMoreThan96Chunks() {
        CHECKS.promise(3, "NO_SPACE: there would be more than 96 CHUNKS");
        Ledger x = Scenes.chunks(95);
        x.append(1, 1000, 1);
        x.append(1, 1001, 1);
        x.append(1, 1002, 1);
        CHECKS.same("flush() to 97 chunks", x.flush(), PointLedger.NO_SPACE);
        CHECKS.same("the head stays", x.sizes(1, 1), 3);
        CHECKS.same("a chunk goes", x.expire(2), 2);
        CHECKS.same("flush() to 96 chunks", x.flush(), 2);
        CHECKS.same("chunks", x.look(2), 96);
        x.append(0, 5000, 0);
        CHECKS.same("flush() to 97 chunks again", x.flush(), PointLedger.NO_SPACE);
        CHECKS.same("all is got back", x.recover(), 2 * 94 + 3 + 1);
        // The series of lower number comes first in the index, so here it is a chunk that there is that has no room.
        Ledger y = Scenes.chunks(96);
        y.append(0, 500, 0);
        CHECKS.same("flush() of a head ahead of chunks", y.flush(), PointLedger.NO_SPACE);
        CHECKS.same("chunks stay", y.look(2), 96);
    }

    private static void theLastPlaceThatThereIs() {
        CHECKS.promise(3, "a CHUNK may end where the DISK ends");
        Ledger x = Scenes.holes();
        int points = Scenes.appendCells(x, 2, 0, 154);
        CHECKS.same("flush() of 154 cells", x.flush(), 1);
        CHECKS.same("its place", x.chunk(2, 0, 5), 3942);
        CHECKS.same("its length", x.chunk(2, 0, 6), 154);
        CHECKS.same("its points", x.chunk(2, 0, 2), points);
        CHECKS.yes("the last cell of the disk has bits", x.cell(4095) != 0);
        CHECKS.same("its last point", x.aggCount(2, x.chunk(2, 0, 1), GREATEST), 1);
        CHECKS.same("all is got back", x.recover(), 13 * 24 + 13 + points);
    }

    private static void noSpaceWithoutAPlace() {
        CHECKS.promise(3, "NO_SPACE: one has no PLACE");
        Ledger x = Scenes.holes();
        Scenes.appendCells(x, 2, 0, 155);
        CHECKS.same("flush() of 155 cells", x.flush(), PointLedger.NO_SPACE);
        CHECKS.same("no chunk came", x.sizes(2, 0), 0);
        Ledger y = Scenes.holes();
        Scenes.appendCells(y, 2, 0, 60);
        CHECKS.same("flush() of 60 cells", y.flush(), 1);
        CHECKS.same("no hole takes them", y.chunk(2, 0, 5), 3942);
        Ledger z = Scenes.holes();
        Scenes.appendCells(z, 2, 0, 59);
        CHECKS.same("flush() of 59 cells", z.flush(), 1);
        CHECKS.same("the first hole takes them", z.chunk(2, 0, 5), 2435);
    }

    /** Two chunks: that of series 1 has a place, that of series 2 behind it has none. */
    private static Ledger oneWithoutPlace() {
        Ledger x = Scenes.holes();
        x.append(1, 500, 5);
        Scenes.appendCells(x, 2, 0, 155);
        return x;
    }

    private static void noSpaceIfOneOfThemHasNoPlace() {
        CHECKS.promise(3, "NO_SPACE if one of several has no PLACE, nothing is WRITTEN or changed");
        Ledger x = oneWithoutPlace();
        CHECKS.same("flush()", x.flush(), PointLedger.NO_SPACE);
        CHECKS.same("no chunk came", x.look(2), 20);
        CHECKS.leaves("flush() of a chunk with a place and one without", Promise03FlushTest::oneWithoutPlace, Ledger::flush);
        // Two that would fit alone: what the one got ahead in this call is not free for the other one.
        Ledger y = Scenes.holes();
        Scenes.appendCells(y, 1, 500, 78);
        Scenes.appendCells(y, 2, 0, 77);
        CHECKS.same("flush() of 78 and 77 cells", y.flush(), PointLedger.NO_SPACE);
        Ledger z = Scenes.holes();
        Scenes.appendCells(z, 1, 500, 77);
        Scenes.appendCells(z, 2, 0, 77);
        CHECKS.same("flush() of 77 and 77 cells", z.flush(), 2);
        CHECKS.same("the second one ends the disk", z.chunk(2, 0, 5) + z.chunk(2, 0, 6), 4096);
    }

    private static Ledger oneTooMany() {
        Ledger x = Scenes.chunks(96);
        x.append(1, 7, 5);
        x.append(0, 1000, -5);
        return x;
    }

    private static void noSpaceChangesNothing() {
        CHECKS.promise(3, "NO_SPACE, nothing is WRITTEN or changed");
        CHECKS.same("flush() to 98 chunks", oneTooMany().flush(), PointLedger.NO_SPACE);
        CHECKS.leaves("flush() to 98 chunks", Promise03FlushTest::oneTooMany, Ledger::flush);
        CHECKS.leaves("flush() to 98 chunks, twice", Promise03FlushTest::oneTooMany, x -> {
            x.flush();
            x.flush();
        });
    }

    private static void noSpaceComesAheadOfPower() {
        CHECKS.promise(3, "NO_SPACE: nothing is WRITTEN, so power does not go");
        Ledger x = oneTooMany();
        x.crashAfter(0);
        CHECKS.same("flush() to 98 chunks", x.flush(), PointLedger.NO_SPACE);
        CHECKS.same("look(6)", x.look(6), 0);
        Ledger y = oneWithoutPlace();
        y.crashAfter(1);
        CHECKS.same("flush() without a place", y.flush(), PointLedger.NO_SPACE);
        CHECKS.same("look(6)", y.look(6), 0);
        CHECKS.same("look(7)", y.look(7), 1);
    }

    private static void goesOnBehindNoSpace() {
        CHECKS.promise(3, "NO_SPACE is told anew by each call");
        Ledger x = oneTooMany();
        x.flush();
        CHECKS.same("append() goes on", x.append(1, 8, 6), 0);
        CHECKS.same("the rest of a chunk", x.aggSum(1, 8, 8), 6);
        CHECKS.same("expire() of two chunks", x.expire(4), 4);
        CHECKS.same("flush()", x.flush(), 2);
        CHECKS.same("chunks", x.look(2), 96);
        CHECKS.same("sum of 1", x.aggSum(1, LEAST, GREATEST), 11);
        CHECKS.same("sum of 0", x.aggSum(0, 191, GREATEST), 3 * 191 - 5);
    }
}
