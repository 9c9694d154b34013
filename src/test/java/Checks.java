import java.util.function.Consumer;
import java.util.function.Supplier;

/** Counts what is not as due; a test ends by done(), with exit code 1 if there was any. */
final class Checks {
    private String sentence = "";
    private int made = 0;
    private int madeForSentence = 1;
    private int wrong = 0;

    /** From here on it is this sentence of the document that is held to. */
    void promise(int number, String words) {
        begin("promise " + number + " (" + words + "): ");
    }

    /** A sentence of the document's section 'Terms', with the promise that it is tested by. */
    void term(int number, int promise, String words) {
        begin("term " + number + ", promise " + promise + " (" + words + "): ");
    }

    private void begin(String next) {
        if (madeForSentence == 0) {
            fail("nothing was checked");
        }
        sentence = next;
        madeForSentence = 0;
    }

    private void count() {
        made++;
        madeForSentence++;
    }

    private void fail(String what) {
        wrong++;
        System.out.println(sentence + what);
    }

    void same(String what, long got, long due) {
        count();
        if (got != due) {
            fail(what + " answered " + got + ", due is " + due);
        }
    }

    void yes(String what, boolean got) {
        same(what, got ? 1 : 0, 1);
    }

    void no(String what, boolean got) {
        same(what, got ? 1 : 0, 0);
    }

    void throwing(String what, Class<? extends RuntimeException> due, Runnable call) {
        count();
        Class<?> got = null;
        try {
            call.run();
        } catch (RuntimeException e) {
            got = e.getClass();
        }
        if (got != due) {
            fail(what + " threw " + got + ", due is " + due);
        }
    }

    /** The CELLS from one on. */
    void cells(String what, Ledger x, int from, int... due) {
        for (int k = 0; k < due.length; k++) {
            same(what + ", cell(" + (from + k) + ")", x.cell(from + k), due[k]);
        }
    }

    /** All that can be asked of two objects, but for the calls that are named. */
    void sameState(String what, State got, State due, String... but) {
        count();
        for (String call : due.differences(got, but)) {
            fail(what + ": " + call);
        }
    }

    /** A call that is to change nothing in a scene, but for the answers that are named. */
    void leaves(String what, Supplier<Ledger> scene, Consumer<Ledger> call, String... but) {
        State before = State.of(scene);
        State after = State.of(() -> {
            Ledger x = scene.get();
            call.accept(x);
            return x;
        });
        sameState(what + " changed the answer", after, before, but);
    }

    /** No CURSOR: nothing to stand at, nowhere to go. */
    void noCursor(String what, Ledger x) {
        same(what + ": curTime() without a cursor", x.curTime(), 0);
        same(what + ": curVal() without a cursor", x.curVal(), 0);
        no(what + ": next() without a cursor", x.next());
        same(what + ": curTime() behind next() without a cursor", x.curTime(), 0);
    }

    int wrong() {
        return wrong;
    }

    void done() {
        begin("");
        System.out.println(wrong == 0 ? made + " checks are as due" : wrong + " of " + made + " checks are not as due");
        if (wrong != 0) {
            System.exit(1);
        }
    }
}
