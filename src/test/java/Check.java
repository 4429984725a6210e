/** Counts and prints the answers of one test that are not the ones that are due. */
final class Check {
    /** A call of the class; a boolean answers 1 or 0, a call without an answer 0. */
    interface Call {
        long answer();
    }

    private final String test;
    private int calls = 0;
    private int wrong = 0;

    Check(String test) {
        this.test = test;
    }

    void same(String what, long got, long due) {
        sameText(what, Long.toString(got), Long.toString(due));
    }

    void same(String what, boolean got, boolean due) {
        sameText(what, Boolean.toString(got), Boolean.toString(due));
    }

    void sameText(String what, String got, String due) {
        calls++;
        if (!got.equals(due)) {
            wrong++;
            System.out.println(test + ": " + what + " answered " + got + ", due is " + due);
        }
    }

    void outOfBounds(String what, Call call) {
        sameText(what, outcome(call), "throws.IndexOutOfBoundsException");
    }

    void badArgument(String what, Call call) {
        sameText(what, outcome(call), "throws.IllegalArgumentException");
    }

    void badState(String what, Call call) {
        sameText(what, outcome(call), "throws.IllegalStateException");
    }

    /** The exception's own class counts, so that a subclass thrown by the machine is told apart. */
    static String outcome(Call call) {
        try {
            return Long.toString(call.answer());
        } catch (RuntimeException e) {
            return "throws." + e.getClass().getSimpleName();
        }
    }

    boolean isClean() {
        return wrong == 0;
    }

    void end() {
        System.out.println(test + ": " + calls + " answers looked at, " + wrong + " not as due");
        if (wrong != 0 || calls == 0) {
            System.exit(1);
        }
    }
}
