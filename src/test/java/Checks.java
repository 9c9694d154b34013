/** Counts what is not as due; a test ends by done(), with exit code 1 if there was any. */
final class Checks {
    private int made = 0;
    private int wrong = 0;

    void same(String what, long got, long due) {
        made++;
        if (got != due) {
            wrong++;
            System.out.println(what + " answered " + got + ", due is " + due);
        }
    }

    void yes(String what, boolean got) {
        same(what, got ? 1 : 0, 1);
    }

    void no(String what, boolean got) {
        same(what, got ? 1 : 0, 0);
    }

    void throwing(String what, Class<? extends RuntimeException> due, Runnable call) {
        made++;
        Class<?> got = null;
        try {
            call.run();
        } catch (RuntimeException e) {
            got = e.getClass();
        }
        if (got != due) {
            wrong++;
            System.out.println(what + " threw " + got + ", due is " + due);
        }
    }

    /** Asks for the same answer of each of the CELLS from one on. */
    void cells(String what, PointLedger x, int from, int... due) {
        for (int k = 0; k < due.length; k++) {
            same(what + ", cell(" + (from + k) + ")", x.cell(from + k), due[k]);
        }
    }

    int wrong() {
        return wrong;
    }

    void done() {
        System.out.println(wrong == 0 ? made + " checks are as due" : wrong + " of " + made + " checks are not as due");
        if (wrong != 0) {
            System.exit(1);
        }
    }
}
