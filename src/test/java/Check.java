/** Counts and prints the answers that are not the ones that are due; one object a test. */
final class Check {
    private static final int MOST_PRINTED = 20;

    private int wrong = 0;

    /** A call whose answer is looked at; a boolean or a character answers its number. */
    interface Call {
        long answer();
    }

    void due(String what, long want, long got) {
        if (want != got) {
            fail(what + " answered " + got + ", due is " + want);
        }
    }

    void due(String what, boolean want, boolean got) {
        due(what, want ? 1 : 0, got ? 1 : 0);
    }

    void dueText(String what, String want, String got) {
        if (!want.equals(got)) {
            fail(what + " answered " + got + ", due is " + want);
        }
    }

    /**
     * The very class is due, not one below it, and thrown by the program itself: not by the machine, whose exceptions
     * stand below some of them, and not by a list.
     */
    void dueThrow(String what, Class<? extends RuntimeException> want, Call call) {
        long got;
        try {
            got = call.answer();
        } catch (RuntimeException e) {
            if (e.getClass() != want || !isThrownByProgram(e)) {
                fail(what + " threw " + e + ", due is " + want.getSimpleName() + " of the program's own");
            }
            return;
        }
        fail(what + " answered " + got + ", due is " + want.getSimpleName());
    }

    static boolean isThrownByProgram(RuntimeException e) {
        StackTraceElement[] trace = e.getStackTrace();
        return trace.length > 0 && trace[0].getClassName().equals("Billwright");
    }

    void fail(String what) {
        wrong++;
        if (wrong <= MOST_PRINTED) {
            System.out.println(what);
        }
    }

    /** Ends the program, with exit code 1 if anything was wrong. */
    void end() {
        System.out.println(wrong == 0 ? "all as due" : wrong + " not as due");
        System.exit(wrong == 0 ? 0 : 1);
    }
}
