/** Counts what is not as due, and ends with the exit code 1 if there was something. */
class Check {
    interface Call {
        void run();
    }

    private final String name;
    private int checks;
    private int wrong;

    Check(String name) {
        this.name = name;
    }

    void same(String what, long got, long want) {
        checks++;
        if (got != want) {
            tell(what + " answered " + got + ", due is " + want);
        }
    }

    void yes(String what, boolean got) {
        same(what, got ? 1 : 0, 1);
    }

    void no(String what, boolean got) {
        same(what, got ? 1 : 0, 0);
    }

    /** The class must be just this one, and thrown by ScoreHouse itself: not by the machine, not by the library. */
    void refused(String what, Class<? extends RuntimeException> due, Call call) {
        checks++;
        try {
            call.run();
            tell(what + " threw nothing, due is " + due.getSimpleName());
        } catch (RuntimeException thrown) {
            if (thrown.getClass() != due) {
                tell(what + " threw " + thrown + ", due is " + due.getSimpleName());
            } else if (!isThrownByTheClass(thrown)) {
                tell(what + " let the library throw " + thrown);
            }
        }
    }

    static boolean isThrownByTheClass(Throwable thrown) {
        StackTraceElement[] calls = thrown.getStackTrace();
        return calls.length > 0 && calls[0].getClassName().startsWith("ScoreHouse");
    }

    void badArgument(String what, Call call) {
        refused(what, IllegalArgumentException.class, call);
    }

    void notThere(String what, Call call) {
        refused(what, IndexOutOfBoundsException.class, call);
    }

    void badState(String what, Call call) {
        refused(what, IllegalStateException.class, call);
    }

    void tell(String fault) {
        wrong++;
        if (wrong <= 40) {
            System.out.println(name + ": " + fault);
        }
    }

    void end() {
        System.out.println(name + ": " + checks + " checks, " + wrong + " wrong");
        if (wrong != 0 || checks == 0) {
            System.exit(1);
        }
    }
}
