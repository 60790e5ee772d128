/** Compares answers with what is due, prints those that differ, and ends with exit code 1 if there was one. */
final class Due {
    interface Call {
        long answer();
    }

    private final String test;
    private int checks;
    private int wrong;

    Due(String test) {
        this.test = test;
    }

    void is(String label, long got, long want) {
        same(label, Long.toString(got), Long.toString(want));
    }

    void is(String label, boolean got, boolean want) {
        same(label, Boolean.toString(got), Boolean.toString(want));
    }

    void same(String label, String got, String want) {
        checks++;
        if (!got.equals(want)) {
            wrong++;
            System.out.println(test + ": " + label + " answered " + got + ", due is " + want);
        }
    }

    void outOfBounds(String label, Call call) {
        same(label, outcome(call), "throws.IndexOutOfBoundsException");
    }

    void wrongArgument(String label, Call call) {
        same(label, outcome(call), "throws.IllegalArgumentException");
    }

    void wrongState(String label, Call call) {
        same(label, outcome(call), "throws.IllegalStateException");
    }

    /** The answer, or what is thrown: what the machine throws by itself is told apart from what the class throws. */
    static String outcome(Call call) {
        try {
            return Long.toString(call.answer());
        } catch (RuntimeException e) {
            StackTraceElement[] frames = e.getStackTrace();
            boolean own = frames.length == 0 || frames[0].getClassName().startsWith("CrushLoad")
                    || frames[0].getClassName().startsWith("PlainStation");
            return (own ? "throws." : "machine.throws.") + e.getClass().getSimpleName();
        }
    }

    void end() {
        System.out.println(test + ": " + checks + " checks, " + wrong + " wrong");
        if (wrong != 0 || checks == 0) {
            System.exit(1);
        }
    }
}
