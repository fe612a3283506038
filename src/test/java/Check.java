/** Counts and prints the answers that are not the ones that are due. */
final class Check {
    interface Call {
        long answer();
    }

    private final String test;
    private String part = "";
    private int checked;
    private int wrong;

    Check(String test) {
        this.test = test;
    }

    void part(String name) {
        part = name;
    }

    void same(String what, long got, long due) {
        checked++;
        if (got != due) {
            complain(what + " answered " + got + ", due is " + due);
        }
    }

    void same(String what, boolean got, boolean due) {
        same(what, got ? 1 : 0, due ? 1 : 0);
    }

    void none(String what, long got) {
        same(what, got, -1000000000);
    }

    /** The very class is asked for: a subclass (NumberFormatException, say) is not what the document names. */
    void fails(String what, Class<? extends RuntimeException> due, Call call) {
        checked++;
        try {
            long got = call.answer();
            complain(what + " answered " + got + ", due is " + due.getSimpleName());
        } catch (RuntimeException e) {
            if (e.getClass() != due) {
                complain(what + " threw " + e.getClass().getSimpleName() + ", due is " + due.getSimpleName());
            }
        }
    }

    void complain(String words) {
        wrong++;
        if (wrong <= 40) {
            System.out.println(test + ", " + part + ": " + words);
        }
    }

    void end() {
        System.out.println(test + ": " + checked + " answers looked at, " + wrong + " wrong");
        if (wrong != 0) {
            System.exit(1);
        }
    }
}
