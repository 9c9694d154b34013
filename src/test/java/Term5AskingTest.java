/** Term 5: ASKING, LOOKS and UNPACKED. */
public final class Term5AskingTest {
    private static final int LEAST = Scenes.LEAST;
    private static final int GREATEST = Scenes.GREATEST;
    private static final Checks CHECKS = new Checks();

    public static void main(String[] args) {
        eachGroupIsLookedAt();
        aGroupThatIsOut();
        aGroupThatIsIn();
        aGroupThatIsNeither();
        eachEntryIsLookedAt();
        aChunkThatIsOut();
        aChunkThatIsIn();
        aChunkThatIsNeither();
        theLastGroupHasFewer();
        fromEachTimeToEach();
        theFirstIsAboveTheSecond();
        theHeadIsNotLookedAt();
        anotherSeriesIsNotLookedAt();
        zeroAheadOfAny();
        ofTheLatest();
        refusedCallsLeaveThem();
        whatACursorUnpacksDoesNotCount();
        CHECKS.done();
    }

    /** Asks in each of the five ways, with other LOOKS and UNPACKED ahead of each. */
    private static void looks(Ledger x, int series, int from, int to, int looks, int unpacked) {
        String range = " from " + from + " to " + to;
        for (int call = 0; call < 5; call++) {
            // A chunk of series 0 is looked at in its group, which makes one look, where none is unpacked.
            x.aggCount(0, 35, 35);
            switch (call) {
                case 0 -> x.seek(series, from, to);
                case 1 -> x.aggCount(series, from, to);
                case 2 -> x.aggMin(series, from, to);
                case 3 -> x.aggMax(series, from, to);
                default -> x.aggSum(series, from, to);
            }
            CHECKS.same("looks of call " + call + range, x.look(4), looks);
            CHECKS.same("unpacked by call " + call + range, x.look(5), unpacked);
        }
    }

    private static void eachGroupIsLookedAt() {
        CHECKS.term(5, 20, "Each GROUP of the SERIES is looked at");
        Ledger x = Scenes.filled();
        looks(x, 1, LEAST, GREATEST, 3, 0);
        looks(x, 1, LEAST, -1, 3, 0);
        looks(x, 1, 81, GREATEST, 3, 0);
        Ledger y = Scenes.chunks(96);
        y.aggCount(0, LEAST, GREATEST);
        CHECKS.same("of 48 groups", y.look(4), 48);
        Ledger z = new Ledger(1, 2, 2);
        z.aggCount(0, LEAST, GREATEST);
        CHECKS.same("of none", z.look(4), 0);
    }

    private static void aGroupThatIsOut() {
        CHECKS.term(5, 10, "A GROUP is OUT, if its last TIME is below the first one asked for or its first TIME above the second one");
        // The groups are 0 to 30, 40 to 70, 80; one that is not out costs two looks more at its entries.
        Ledger x = Scenes.filled();
        looks(x, 1, 31, 39, 3, 0);
        looks(x, 1, 30, 39, 5, 1);
        looks(x, 1, 31, 40, 5, 1);
        looks(x, 1, 71, 79, 3, 0);
        looks(x, 1, 70, 79, 5, 1);
        looks(x, 1, LEAST, -1, 3, 0);
        looks(x, 1, LEAST, 0, 5, 1);
        looks(x, 1, 81, GREATEST, 3, 0);
    }

    private static void aGroupThatIsIn() {
        CHECKS.term(5, 10, "else IN, if its first TIME is not below, its last TIME not above these");
        Ledger x = Scenes.filled();
        looks(x, 1, 0, 30, 3, 0);
        looks(x, 1, 1, 30, 5, 1);
        looks(x, 1, 0, 29, 5, 1);
        looks(x, 1, -1, 31, 3, 0);
        looks(x, 1, 40, 70, 3, 0);
        looks(x, 1, 41, 70, 5, 1);
        looks(x, 1, 40, 69, 5, 1);
        looks(x, 1, 0, 70, 3, 0);
        looks(x, 1, 0, 80, 3, 0);
        looks(x, 1, 80, 80, 3, 0);
        CHECKS.same("what is in counts whole", x.aggSum(1, 40, 70), 960 + 950 + 940 + 930);
    }

    private static void aGroupThatIsNeither() {
        CHECKS.term(5, 10, "of one that is neither OUT nor IN each ENTRY is looked at");
        Ledger x = Scenes.filled();
        looks(x, 1, 20, 30, 5, 0);
        looks(x, 1, 0, 10, 5, 0);
        looks(x, 1, 20, 50, 7, 0);
        looks(x, 1, 15, 55, 7, 0);
        Ledger y = new Ledger(1, 2, 8);
        Scenes.seal(y, 0, 0, 32);
        y.aggCount(0, 2, 31);
        CHECKS.same("looks at two groups and eight entries", y.look(4), 10);
        y.aggCount(0, 2, 29);
        CHECKS.same("looks at two groups and all entries", y.look(4), 18);
        CHECKS.same("unpacked", y.look(5), 0);
    }

    private static void eachEntryIsLookedAt() {
        CHECKS.term(5, 10, "each ENTRY is looked at, those ahead of the TIMES asked for and those behind them too");
        for (int ratio = 2; ratio <= 8; ratio++) {
            Ledger x = spaced(ratio, ratio);
            for (int k = 0; k < ratio; k++) {
                x.aggCount(0, 10 * k + 1, 10 * k + 3);
                CHECKS.same("looks amid chunk " + k + " of " + ratio, x.look(4), 1 + ratio);
                CHECKS.same("unpacked amid chunk " + k + " of " + ratio, x.look(5), 1);
                x.aggCount(0, 10 * k, 10 * k + 4);
                CHECKS.same("looks where chunk " + k + " of " + ratio + " is in", x.look(4), 1 + ratio);
                CHECKS.same("unpacked where chunk " + k + " of " + ratio + " is in", x.look(5), 0);
            }
        }
    }

    /** Series 0 has so many chunks, chunk k of the times 10 * k and 10 * k + 4. */
    private static Ledger spaced(int chunks, int ratio) {
        Ledger x = new Ledger(1, 2, ratio);
        for (int k = 0; k < chunks; k++) {
            x.append(0, 10 * k, k);
            x.append(0, 10 * k + 4, -k);
        }
        x.flush();
        return x;
    }

    private static void aChunkThatIsOut() {
        CHECKS.term(5, 10, "A CHUNK is OUT, if its last TIME is below the first one asked for or its first TIME above the second one");
        Ledger x = Scenes.filled();
        looks(x, 1, 11, 19, 5, 0);
        looks(x, 1, 10, 19, 5, 1);
        looks(x, 1, 11, 20, 5, 1);
        looks(x, 1, 10, 20, 5, 2);
        looks(x, 1, 51, 59, 5, 0);
        CHECKS.same("what is out counts nothing", x.aggCount(1, 11, 19), 0);
    }

    private static void aChunkThatIsIn() {
        CHECKS.term(5, 10, "A CHUNK is IN, if its first TIME is not below, its last TIME not above these");
        Ledger x = Scenes.filled();
        looks(x, 1, 20, 30, 5, 0);
        looks(x, 1, 20, 31, 5, 0);
        looks(x, 1, 19, 30, 5, 0);
        looks(x, 1, 21, 30, 5, 1);
        looks(x, 1, 20, 29, 5, 1);
        CHECKS.same("its points", x.aggCount(1, 20, 30), 2);
        CHECKS.same("its least value", x.aggMin(1, 20, 30), 970);
        CHECKS.same("its greatest value", x.aggMax(1, 20, 30), 980);
        CHECKS.same("its sum", x.aggSum(1, 20, 30), 1950);
    }

    private static void aChunkThatIsNeither() {
        CHECKS.term(5, 10, "a CHUNK of such a GROUP that is neither OUT nor IN is unpacked");
        Ledger x = Scenes.filled();
        looks(x, 1, 25, 25, 5, 1);
        looks(x, 1, 5, 25, 5, 2);
        looks(x, 1, 5, 65, 7, 2);
        looks(x, 1, 5, 45, 7, 2);
        looks(x, 1, 25, 45, 7, 2);
        CHECKS.same("though none of its points is asked for", x.aggCount(1, 22, 28), 0);
        CHECKS.same("it is unpacked", x.look(5), 1);
        Ledger y = new Ledger(1, 64, 2);
        Scenes.seal(y, 0, 0, 64);
        y.aggCount(0, 1, 63);
        CHECKS.same("looks at one group and its entry", y.look(4), 2);
        CHECKS.same("one is unpacked", y.look(5), 1);
    }

    private static void theLastGroupHasFewer() {
        CHECKS.term(5, 10, "Each GROUP is looked at, the last one that has fewer too");
        Ledger x = new Ledger(1, 2, 3);
        Scenes.seal(x, 0, 0, 10);
        // Groups 0 to 5 and 6 to 9 of three chunks and of two.
        x.aggCount(0, 6, 9);
        CHECKS.same("in", x.look(4), 2);
        x.aggCount(0, 6, 8);
        CHECKS.same("neither: two entries", x.look(4), 4);
        CHECKS.same("neither: one is unpacked", x.look(5), 1);
        x.aggCount(0, 5, 8);
        CHECKS.same("both neither", x.look(4), 7);
        CHECKS.same("both neither: two are unpacked", x.look(5), 2);
    }

    private static void fromEachTimeToEach() {
        CHECKS.term(5, 20, "LOOKS are the GROUPS and ENTRIES that were looked at, UNPACKED the CHUNKS that were unpacked");
        int chunks = 9;
        for (int ratio = 2; ratio <= 8; ratio += 3) {
            for (int from = -1; from <= 10 * chunks; from++) {
                Ledger x = spaced(chunks, ratio);
                for (int to = -1; to <= 10 * chunks; to++) {
                    x.aggCount(0, from, to);
                    int due = looksAndUnpacked(chunks, ratio, from, to);
                    String range = " of ratio " + ratio + " from " + from + " to " + to;
                    CHECKS.same("looks" + range, x.look(4), due / 100);
                    CHECKS.same("unpacked" + range, x.look(5), due % 100);
                }
            }
        }
    }

    /** What is due of spaced(): a hundred for each look, one for each chunk that is unpacked. */
    private static int looksAndUnpacked(int chunks, int ratio, int from, int to) {
        int due = 0;
        for (int first = 0; first < chunks; first += ratio) {
            int last = Math.min(first + ratio, chunks) - 1;
            due += 100;
            for (int k = first; k <= last && isNeither(10 * first, 10 * last + 4, from, to); k++) {
                due += isNeither(10 * k, 10 * k + 4, from, to) ? 101 : 100;
            }
        }
        return due;
    }

    private static boolean isNeither(int first, int last, int from, int to) {
        boolean isOut = last < from || first > to;
        boolean isIn = first >= from && last <= to;
        return !isOut && !isIn;
    }

    private static void theFirstIsAboveTheSecond() {
        CHECKS.term(5, 10, "no POINT, if the first one is above the second one; OUT and IN are asked all the same");
        Ledger x = Scenes.filled();
        looks(x, 1, 26, 24, 5, 1);
        looks(x, 1, 30, 20, 5, 1);
        looks(x, 1, 20, 10, 5, 0);
        looks(x, 1, 40, 30, 3, 0);
        looks(x, 1, GREATEST, LEAST, 3, 0);
        CHECKS.same("none", x.aggCount(1, 30, 20), 0);
    }

    private static void theHeadIsNotLookedAt() {
        CHECKS.term(5, 10, "LOOKS are the GROUPS and ENTRIES that were looked at, not the HEAD");
        Ledger x = Scenes.fullLog();
        CHECKS.same("aggCount(1, 3, 9)", x.aggCount(1, 3, 9), 7);
        CHECKS.same("looks", x.look(4), 0);
        CHECKS.same("unpacked", x.look(5), 0);
        Ledger y = Scenes.filled();
        looks(y, 1, 90, 95, 3, 0);
        looks(y, 1, 80, 100, 3, 0);
    }

    private static void anotherSeriesIsNotLookedAt() {
        CHECKS.term(5, 10, "Each GROUP of the SERIES, not of another one");
        Ledger x = Scenes.filled();
        looks(x, 0, LEAST, GREATEST, 1, 0);
        looks(x, 0, 36, 90, 1, 0);
        x.flush();
        x.aggCount(0, 36, 95);
        CHECKS.same("looks", x.look(4), 3);
        CHECKS.same("unpacked", x.look(5), 0);
    }

    private static void zeroAheadOfAny() {
        CHECKS.term(5, 20, "0 ahead of any");
        Ledger x = Scenes.filled();
        x.compact(1);
        x.recover();
        x.group(1, 0, 2);
        CHECKS.same("look(4)", x.look(4), 0);
        CHECKS.same("look(5)", x.look(5), 0);
    }

    private static void ofTheLatest() {
        CHECKS.term(5, 20, "in the latest seek(), aggCount(), aggMin(), aggMax(), aggSum()");
        Ledger x = Scenes.filled();
        x.seek(1, 5, 65);
        CHECKS.same("seek()", x.look(4) * 10 + x.look(5), 72);
        x.aggCount(1, 0, 80);
        CHECKS.same("aggCount()", x.look(4) * 10 + x.look(5), 30);
        x.aggMin(1, 25, 25);
        CHECKS.same("aggMin()", x.look(4) * 10 + x.look(5), 51);
        x.aggMax(0, 0, 80);
        CHECKS.same("aggMax()", x.look(4) * 10 + x.look(5), 10);
        x.aggSum(1, 5, 15);
        CHECKS.same("aggSum()", x.look(4) * 10 + x.look(5), 51);
        x.expire(GREATEST);
        x.seek(1, 5, 65);
        CHECKS.same("seek() of a head alone", x.look(4) * 10 + x.look(5), 0);
    }

    private static void refusedCallsLeaveThem() {
        CHECKS.term(5, 20, "that was not refused");
        Ledger x = Scenes.filled();
        x.aggCount(1, 5, 65);
        for (int bad : Scenes.NO_SERIES_OF_TWO) {
            x.seek(bad, 0, 0);
            x.aggCount(bad, 0, 0);
            CHECKS.throwing("aggMin()", IndexOutOfBoundsException.class, () -> x.aggMin(bad, 0, 0));
            CHECKS.throwing("aggMax()", IndexOutOfBoundsException.class, () -> x.aggMax(bad, 0, 0));
            CHECKS.throwing("aggSum()", IndexOutOfBoundsException.class, () -> x.aggSum(bad, 0, 0));
            CHECKS.same("look(4)", x.look(4), 7);
            CHECKS.same("look(5)", x.look(5), 2);
        }
        x.crashAfter(0);
        x.flush();
        x.seek(0, 0, 50);
        x.aggCount(0, 0, 50);
        CHECKS.throwing("aggMin()", IllegalStateException.class, () -> x.aggMin(0, 0, 50));
        CHECKS.throwing("aggMax()", IllegalStateException.class, () -> x.aggMax(0, 0, 50));
        CHECKS.throwing("aggSum()", IllegalStateException.class, () -> x.aggSum(0, 0, 50));
        CHECKS.same("look(4) of a store that is down", x.look(4), 7);
        CHECKS.same("look(5) of a store that is down", x.look(5), 2);
        x.recover();
        CHECKS.same("look(4) behind recover()", x.look(4), 7);
        CHECKS.same("look(5) behind recover()", x.look(5), 2);
    }

    private static void whatACursorUnpacksDoesNotCount() {
        CHECKS.term(5, 20, "what a CURSOR unpacks later does not count");
        Ledger x = Scenes.filled();
        x.seek(1, 5, 65);
        for (int k = 0; k < 9; k++) {
            x.next();
            CHECKS.same("look(4) behind next()", x.look(4), 7);
            CHECKS.same("look(5) behind next()", x.look(5), 2);
        }
        x.seek(1, LEAST, GREATEST);
        x.next();
        CHECKS.same("look(5) where none was unpacked", x.look(5), 0);
    }
}
