/** Counts and prints the answers that are not the ones that are due. */
final class Check {
    interface Call {
        long answer();
    }

    /** What outcome tells of an exception: no answer of the face is as great. */
    static final long STATE = 3000000001L;
    static final long ARGUMENT = 3000000002L;

    private final String test;
    private String part = "";
    private int checked;
    private int wrong;

    Check(String test) {
        this.test = test;
    }

    /** The answer, or which of the two exceptions was thrown. */
    static long outcome(Call call) {
        try {
            return call.answer();
        } catch (IllegalStateException e) {
            return STATE;
        } catch (IllegalArgumentException e) {
            return ARGUMENT;
        }
    }

    void part(String name) {
        part = name;
    }

    void same(String what, long got, long due) {
        checked++;
        if (got != due) {
            complain(what + " answered " + got + ", due is " + due);
        }
    }

    void same(String what, boolean got, boolean due) {
        same(what, got ? 1 : 0, due ? 1 : 0);
    }

    void none(String what, long got) {
        same(what, got, -1000000000);
    }

    /** The very class is asked for: a subclass (NumberFormatException, say) is not what the document names. */
    void fails(String what, Class<? extends RuntimeException> due, Call call) {
        checked++;
        try {
            long got = call.answer();
            complain(what + " answered " + got + ", due is " + due.getSimpleName());
        } catch (RuntimeException e) {
            if (e.getClass() != due) {
                complain(what + " threw " + e.getClass().getSimpleName() + ", due is " + due.getSimpleName());
            }
        }
    }

    void complain(String words) {
        wrong++;
        if (wrong <= 40) {
            System.out.println(test + ", " + part + ": " + words);
        }
    }

    void end() {
        System.out.println(test + ": " + checked + " answers looked at, " + wrong + " wrong");
        if (wrong != 0) {
            System.exit(1);
        }
    }
}
