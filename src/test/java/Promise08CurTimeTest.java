/** Promise 8: curTime. */
public final class Promise08CurTimeTest {
    private static final int LEAST = Scenes.LEAST;
    private static final int GREATEST = Scenes.GREATEST;
    private static final Checks CHECKS = new Checks();

    public static void main(String[] args) {
        theTimeOfThePoint();
        zeroAheadOfTheFirst();
        zeroBehindTheLast();
        zeroWithoutACursor();
        CHECKS.done();
    }

    private static void theTimeOfThePoint() {
        CHECKS.promise(8, "The TIME of the POINT at which the CURSOR stands");
        int[] times = {LEAST, LEAST + 1, -1, 0, 1, 7, GREATEST - 1, GREATEST};
        Ledger x = new Ledger(1, 3, 2);
        for (int time : times) {
            x.append(0, time, 5);
        }
        for (int round = 0; round < 3; round++) {
            x.seek(0, LEAST, GREATEST);
            for (int time : times) {
                x.next();
                CHECKS.same("curTime()", x.curTime(), time);
                CHECKS.same("curTime() again", x.curTime(), time);
            }
            x.flush();
            x.recover();
        }
    }

    private static void zeroAheadOfTheFirst() {
        CHECKS.promise(8, "0 ahead of the first");
        Ledger x = Scenes.filled();
        x.seek(1, 10, 100);
        CHECKS.same("curTime() of a new cursor", x.curTime(), 0);
        x.next();
        CHECKS.same("curTime()", x.curTime(), 10);
        x.seek(1, 20, 100);
        CHECKS.same("curTime() of another cursor", x.curTime(), 0);
    }

    private static void zeroBehindTheLast() {
        CHECKS.promise(8, "0 behind the last one");
        Ledger x = Scenes.filled();
        for (int last : new int[] {50, 80, 90, 100}) {
            x.seek(1, last, last + 5);
            x.next();
            CHECKS.same("curTime()", x.curTime(), last);
            x.next();
            CHECKS.same("curTime() behind " + last, x.curTime(), 0);
            x.next();
            CHECKS.same("curTime() behind " + last + " again", x.curTime(), 0);
        }
        x.seek(1, 11, 19);
        x.next();
        CHECKS.same("curTime() behind none", x.curTime(), 0);
    }

    private static void zeroWithoutACursor() {
        CHECKS.promise(8, "0 without a CURSOR");
        CHECKS.same("curTime() of a new one", new Ledger(1, 2, 2).curTime(), 0);
        CHECKS.same("curTime() ahead of any seek()", Scenes.filled().curTime(), 0);
        CHECKS.same("curTime() of a store that is down", Scenes.down().curTime(), 0);
        Ledger x = Scenes.filled();
        x.seek(1, 10, 100);
        x.next();
        x.append(9, 0, 0);
        CHECKS.same("curTime() behind append()", x.curTime(), 0);
    }
}
