/** Promise 9: curVal. */
public final class Promise09CurValTest {
    private static final int LEAST = Scenes.LEAST;
    private static final int GREATEST = Scenes.GREATEST;
    private static final Checks CHECKS = new Checks();

    public static void main(String[] args) {
        itsValue();
        zeroAheadOfTheFirst();
        zeroBehindTheLast();
        zeroWithoutACursor();
        CHECKS.done();
    }

    private static void itsValue() {
        CHECKS.promise(9, "Its VALUE");
        int[] values = {5, LEAST, GREATEST, GREATEST, LEAST, -1, 0, 1, 1, -70_000};
        Ledger x = new Ledger(1, 3, 2);
        for (int t = 0; t < values.length; t++) {
            x.append(0, t + 1, values[t]);
        }
        for (int round = 0; round < 3; round++) {
            x.seek(0, LEAST, GREATEST);
            for (int value : values) {
                x.next();
                CHECKS.same("curVal()", x.curVal(), value);
                CHECKS.same("curVal() again", x.curVal(), value);
            }
            x.flush();
            x.recover();
        }
    }

    private static void zeroAheadOfTheFirst() {
        CHECKS.promise(9, "0 likewise: ahead of the first");
        Ledger x = Scenes.filled();
        x.seek(1, 10, 100);
        CHECKS.same("curVal() of a new cursor", x.curVal(), 0);
        x.next();
        CHECKS.same("curVal()", x.curVal(), 990);
        x.seek(1, 20, 100);
        CHECKS.same("curVal() of another cursor", x.curVal(), 0);
    }

    private static void zeroBehindTheLast() {
        CHECKS.promise(9, "0 likewise: behind the last one");
        Ledger x = Scenes.filled();
        for (int last : new int[] {50, 80, 90, 100}) {
            x.seek(1, last, last + 5);
            x.next();
            CHECKS.same("curVal()", x.curVal(), 1000 - last);
            x.next();
            CHECKS.same("curVal() behind " + last, x.curVal(), 0);
            x.next();
            CHECKS.same("curVal() behind " + last + " again", x.curVal(), 0);
        }
        x.seek(1, 11, 19);
        x.next();
        CHECKS.same("curVal() behind none", x.curVal(), 0);
    }

    private static void zeroWithoutACursor() {
        CHECKS.promise(9, "0 likewise: without a CURSOR");
        CHECKS.same("curVal() of a new one", new Ledger(1, 2, 2).curVal(), 0);
        CHECKS.same("curVal() ahead of any seek()", Scenes.filled().curVal(), 0);
        CHECKS.same("curVal() of a store that is down", Scenes.down().curVal(), 0);
        Ledger x = Scenes.filled();
        x.seek(1, 10, 100);
        x.next();
        x.append(9, 0, 0);
        CHECKS.same("curVal() behind append()", x.curVal(), 0);
    }
}
