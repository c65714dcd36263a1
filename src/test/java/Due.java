/** Compares answers with those that are due, and tells the wrong ones. */
final class Due {
    private final String name;
    private int checked;
    private int wrong;

    Due(String name) {
        this.name = name;
    }

    void is(String what, long got, long want) {
        checked++;
        if (got != want) {
            wrong++;
            System.out.println(name + ": " + what + " answered " + got + ", due is " + want);
        }
    }

    void holds(String what, boolean got) {
        is(what, got ? 1 : 0, 1);
    }

    int wrong() {
        return wrong;
    }

    /** Ends the test: exit code 1 if an answer was wrong, or if nothing was looked at. */
    void end() {
        System.out.println(name + ": " + checked + " checks, " + wrong + " wrong");
        if (wrong > 0 || checked == 0) {
            System.exit(1);
        }
    }
}
