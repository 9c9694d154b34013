import java.lang.reflect.Field;

/** Promise 20: look. */
public final class Promise20LookTest {
    private static final int LEAST = Scenes.LEAST;
    private static final int GREATEST = Scenes.GREATEST;
    private static final Checks CHECKS = new Checks();

    public static void main(String[] args) throws IllegalAccessException {
        writesDoneSoFar();
        writesGoRoundAt32Bits();
        blocksThatAreLogged();
        chunksOfAllSeries();
        cellsThatChunksHave();
        looksAndUnpacked();
        oneIfTheStoreIsDown();
        writesTillPowerGoes();
        howOftenRecoverWasCalled();
        noneForAnotherWhat();
        ofAStoreThatIsDown();
        recoverLeavesWritesLooksAndUnpacked();
        changesNothing();
        CHECKS.done();
    }

    private static void writesDoneSoFar() {
        CHECKS.promise(20, "0 the WRITES done so far");
        Ledger x = new Ledger(2, 2, 2);
        CHECKS.same("of a new one", x.look(0), 0);
        x.append(0, 1, 1);
        CHECKS.same("append() has 4", x.look(0), 4);
        x.append(0, 1, 1);
        x.append(9, 1, 1);
        CHECKS.same("a refused one has none", x.look(0), 4);
        x.append(0, 2, 1);
        x.append(0, 3, 1);
        x.flush();
        CHECKS.same("flush() has 3 + 2 + 21 + 1", x.look(0), 12 + 27);
        x.append(1, 9, 1);
        x.flush();
        CHECKS.same("flush() has 2 + 31 + 1", x.look(0), 39 + 4 + 34);
        x.append(1, 10, 1);
        x.flush();
        x.compact(1);
        CHECKS.same("flush() has 2 + 41 + 1, compact() 3 + 31 + 1", x.look(0), 77 + 4 + 44 + 35);
        x.expire(3);
        CHECKS.same("expire() has 21 + 1", x.look(0), 160 + 22);
        x.seek(0, 0, 9);
        x.next();
        x.aggSum(0, 0, 9);
        x.crashAfter(9);
        x.recover();
        CHECKS.same("the others have none", x.look(0), 182);
    }

    private static void writesGoRoundAt32Bits() throws IllegalAccessException {
        CHECKS.promise(20, "0 the WRITES done so far (going round at 32 bits)");
        int[][] doneAndDue = {{GREATEST - 4, GREATEST}, {GREATEST - 3, LEAST}, {GREATEST, LEAST + 3}, {-4, 0}, {-1, 3}};
        for (int[] row : doneAndDue) {
            PointLedger x = new PointLedger(1, 2, 2);
            CHECKS.same("look(0) of a new one", x.look(0), 0);
            if (!setWritesDone(x, row[0])) {
                System.out.println("the count is held elsewhere, so it was not seen going round");
                return;
            }
            CHECKS.same("look(0)", x.look(0), row[0]);
            CHECKS.same("append()", x.append(0, 1, 1), 0);
            CHECKS.same("look(0) behind four more than " + row[0], x.look(0), row[1]);
            CHECKS.same("power does not go", x.look(7), PointLedger.NONE);
            CHECKS.yes("crashAfter(4)", x.crashAfter(4));
            CHECKS.same("append() with four writes", x.append(0, 2, 1), 0);
            CHECKS.same("append() with none", x.append(0, 3, 1), PointLedger.DOWN);
            CHECKS.same("look(0) behind recover()", x.recover() + x.look(0), 2 + row[1] + 4);
        }
    }

    /** No 512 calls make so many writes, so the count is set in the object itself; false if it is not where it was. */
    private static boolean setWritesDone(PointLedger x, int count) throws IllegalAccessException {
        try {
            Field disk = PointLedger.class.getDeclaredField("disk");
            disk.setAccessible(true);
            Field writesDone = disk.getType().getDeclaredField("writesDone");
            writesDone.setAccessible(true);
            writesDone.setInt(disk.get(x), count);
            return true;
        } catch (NoSuchFieldException e) {
            return false;
        }
    }

    private static void blocksThatAreLogged() {
        CHECKS.promise(20, "1 BLOCKS that are LOGGED");
        Ledger x = new Ledger(2, 2, 2);
        CHECKS.same("of a new one", x.look(1), 0);
        for (int b = 1; b <= 128; b++) {
            x.append(b % 2, b, 0);
            CHECKS.same("behind " + b, x.look(1), b);
        }
        x.append(0, 1000, 0);
        CHECKS.same("128 at most", x.look(1), 128);
        x.flush();
        CHECKS.same("behind flush()", x.look(1), 0);
        x.append(0, 1000, 0);
        CHECKS.same("behind append()", x.look(1), 1);
    }

    private static void chunksOfAllSeries() {
        CHECKS.promise(20, "2 CHUNKS of all SERIES");
        Ledger x = Scenes.filled();
        CHECKS.same("of 1 and 5", x.look(2), 6);
        x.flush();
        CHECKS.same("of 2 and 6", x.look(2), 8);
        x.compact(0);
        CHECKS.same("of 1 and 6", x.look(2), 7);
        x.expire(31);
        CHECKS.same("of 1 and 4", x.look(2), 5);
        x.expire(GREATEST);
        CHECKS.same("of none", x.look(2), 0);
        CHECKS.same("96", Scenes.chunks(96).look(2), 96);
    }

    private static void cellsThatChunksHave() {
        CHECKS.promise(20, "3 CELLS of the AREA that CHUNKS have");
        Ledger x = Scenes.filled();
        CHECKS.same("of 2, 4 times 3, 2", x.look(3), 16);
        x.flush();
        CHECKS.same("with 2 and 3", x.look(3), 21);
        x.compact(0);
        CHECKS.same("3 in place of 2 and 2", x.look(3), 20);
        x.expire(31);
        CHECKS.same("without 3 and 3", x.look(3), 14);
        x.expire(GREATEST);
        CHECKS.same("of none", x.look(3), 0);
        Ledger y = Scenes.holes();
        Scenes.appendCells(y, 2, 0, 154);
        y.flush();
        CHECKS.same("of all but 12 holes", y.look(3), 1661 - 12 * 59);
    }

    private static void looksAndUnpacked() {
        CHECKS.promise(20, "4 LOOKS, 5 UNPACKED");
        Ledger x = Scenes.filled();
        CHECKS.same("look(4) ahead of any", x.look(4), 0);
        CHECKS.same("look(5) ahead of any", x.look(5), 0);
        x.aggCount(1, 5, 65);
        CHECKS.same("look(4)", x.look(4), 7);
        CHECKS.same("look(5)", x.look(5), 2);
        x.aggCount(0, 0, 100);
        CHECKS.same("look(4) of the latest", x.look(4), 1);
        CHECKS.same("look(5) of the latest", x.look(5), 0);
        x.aggCount(1, 5, 65);
        x.append(1, 200, 0);
        x.flush();
        x.compact(0);
        x.expire(11);
        CHECKS.same("look(4) stays", x.look(4), 7);
        CHECKS.same("look(5) stays", x.look(5), 2);
    }

    private static void oneIfTheStoreIsDown() {
        CHECKS.promise(20, "6 1 if the store is DOWN, else 0");
        Ledger x = Scenes.filled();
        CHECKS.same("up", x.look(6), 0);
        x.crashAfter(0);
        CHECKS.same("with no write left", x.look(6), 0);
        x.flush();
        CHECKS.same("down", x.look(6), 1);
        x.flush();
        CHECKS.same("still down", x.look(6), 1);
        x.recover();
        CHECKS.same("up again", x.look(6), 0);
    }

    private static void writesTillPowerGoes() {
        CHECKS.promise(20, "7 how many WRITES are still done till power goes (NONE if it does not go; 0 of a store that is DOWN)");
        Ledger x = Scenes.filled();
        CHECKS.same("if it does not go", x.look(7), PointLedger.NONE);
        x.crashAfter(7);
        CHECKS.same("of 7", x.look(7), 7);
        x.append(0, 200, 0);
        CHECKS.same("behind four writes", x.look(7), 3);
        x.append(0, 201, 0);
        CHECKS.same("of a store that is down", x.look(7), 0);
        x.crashAfter(5);
        CHECKS.same("of a store that is down, told in vain", x.look(7), 0);
        x.recover();
        CHECKS.same("if it does not go any more", x.look(7), PointLedger.NONE);
        x.append(0, 201, 0);
        CHECKS.same("still", x.look(7), PointLedger.NONE);
        x.crashAfter(1_000_000);
        x.append(0, 202, 0);
        CHECKS.same("of the most", x.look(7), 999_996);
    }

    private static void howOftenRecoverWasCalled() {
        CHECKS.promise(20, "8 how often recover() was called");
        Ledger x = Scenes.filled();
        CHECKS.same("never", x.look(8), 0);
        x.recover();
        CHECKS.same("once, with power", x.look(8), 1);
        x.crashAfter(0);
        x.flush();
        CHECKS.same("not while down", x.look(8), 1);
        x.recover();
        CHECKS.same("twice", x.look(8), 2);
        x.recover();
        CHECKS.same("thrice", x.look(8), 3);
        x.flush();
        CHECKS.same("still", x.look(8), 3);
    }

    private static void noneForAnotherWhat() {
        CHECKS.promise(20, "NONE for another what");
        for (Ledger x : new Ledger[] {Scenes.filled(), Scenes.down(), new Ledger(1, 2, 2)}) {
            for (int what : new int[] {-1, -2, 9, 10, LEAST, GREATEST}) {
                CHECKS.same("look(" + what + ")", x.look(what), PointLedger.NONE);
            }
        }
    }

    private static void ofAStoreThatIsDown() {
        CHECKS.promise(20, "1 to 5 of a store that is DOWN: as ahead of the call in which power went");
        for (Writing w : Writing.all()) {
            Ledger before = w.scene.get();
            int[] due = new int[9];
            for (int what = 0; what < 9; what++) {
                due[what] = before.look(what);
            }
            CHECKS.yes(w.name + ": there is something to tell", due[1] > 0 && due[2] > 0 && due[4] > 0);
            for (int writes = 0; writes < w.order.length; writes++) {
                Ledger x = w.cutShort(writes);
                String call = w.name + " with " + writes + " writes: look(";
                CHECKS.same(call + "0)", x.look(0), due[0] + writes);
                for (int what = 1; what < 6; what++) {
                    CHECKS.same(call + what + ")", x.look(what), due[what]);
                }
                CHECKS.same(call + "6)", x.look(6), 1);
                CHECKS.same(call + "7)", x.look(7), 0);
                CHECKS.same(call + "8)", x.look(8), 0);
                CHECKS.same(call + "9)", x.look(9), PointLedger.NONE);
            }
        }
    }

    private static void recoverLeavesWritesLooksAndUnpacked() {
        CHECKS.promise(20, "recover() leaves 0, 4 and 5 as they are");
        Ledger x = Scenes.filled();
        x.aggCount(1, 5, 65);
        int writes = x.look(0);
        x.recover();
        CHECKS.same("look(0) with power", x.look(0), writes);
        CHECKS.same("look(4) with power", x.look(4), 7);
        CHECKS.same("look(5) with power", x.look(5), 2);
        x.crashAfter(20);
        x.flush();
        CHECKS.same("look(0) when power has gone", x.look(0), writes + 20);
        x.recover();
        CHECKS.same("look(0) when power came", x.look(0), writes + 20);
        CHECKS.same("look(4) when power came", x.look(4), 7);
        CHECKS.same("look(5) when power came", x.look(5), 2);
    }

    private static void changesNothing() {
        CHECKS.promise(20, "A number is told, nothing changes");
        CHECKS.leaves("look()", () -> {
            Ledger x = Scenes.filled();
            x.seek(1, 5, 65);
            x.next();
            return x;
        }, x -> {
            for (int what = -1; what < 10; what++) {
                x.look(what);
            }
        });
    }
}
