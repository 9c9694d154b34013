/** Promise 16: cell. */
public final class Promise16CellTest {
    private static final Checks CHECKS = new Checks();

    public static void main(String[] args) {
        aCellOfTheDisk();
        theLastCellOfTheDisk();
        zeroIfThereIsNoneSuch();
        alsoOfAStoreThatIsDown();
        changesNothing();
        CHECKS.done();
    }

    private static void aCellOfTheDisk() {
        CHECKS.promise(16, "A CELL of the DISK");
        Ledger x = Scenes.filled();
        CHECKS.cells("the root", x, 0, 3);
        CHECKS.cells("the index", x, 962, 6, 0, 35, 35, 1, 5, 5, 0, 5, 2435, 2, 1, 0, 10, 2, 990, 1000, 0, 1990, 2437, 3);
        CHECKS.cells("the log", x, 1923, 1, 90, 910, 2, 0, 95, 6, 2, 1, 100, 900, 2, 1, 30, 970, 1);
        CHECKS.cells("the area", x, 2435, 35, 5, 0, 1000);
    }

    private static void theLastCellOfTheDisk() {
        CHECKS.promise(16, "A CELL of the DISK, up to the last one");
        Ledger x = Scenes.holes();
        Scenes.appendCells(x, 2, 0, 154);
        x.flush();
        CHECKS.yes("cell(4094)", x.cell(4094) != 0);
        CHECKS.yes("cell(4095)", x.cell(4095) != 0);
        CHECKS.same("cell(4096)", x.cell(4096), 0);
    }

    private static void zeroIfThereIsNoneSuch() {
        CHECKS.promise(16, "0 if there is none such");
        for (Ledger x : new Ledger[] {Scenes.filled(), Scenes.down(), new Ledger(1, 2, 2)}) {
            for (int k : new int[] {-1, -2, -4096, Scenes.LEAST, 4096, 4097, 8192, 65_536, Scenes.GREATEST}) {
                CHECKS.same("cell(" + k + ")", x.cell(k), 0);
            }
        }
    }

    private static void alsoOfAStoreThatIsDown() {
        CHECKS.promise(16, "Also of a store that is DOWN");
        Ledger x = Scenes.filled();
        x.crashAfter(3);
        x.append(0, 500, 77);
        CHECKS.cells("the root", x, 0, 3);
        CHECKS.cells("the index", x, 962, 6, 0, 35, 35, 1);
        CHECKS.cells("what was written ahead of it", x, 1935, 0, 500, 77, 1);
        CHECKS.cells("the area", x, 2435, 35, 5, 0, 1000);
        CHECKS.same("look(6)", x.look(6), 1);
    }

    private static void changesNothing() {
        CHECKS.promise(16, "A CELL is told, nothing changes");
        CHECKS.leaves("cell()", () -> {
            Ledger x = Scenes.filled();
            x.seek(1, 5, 65);
            x.next();
            return x;
        }, x -> {
            x.cell(0);
            x.cell(4095);
            x.cell(-1);
        });
    }
}
