/** Counts the answers of a test that are not the ones that are due. */
final class Check {
    /** A call whose answer, or exception, is looked at. */
    interface Call {
        long answer();
    }

    private int wrong;
    private int seen;

    void due(String call, long got, long want) {
        dueText(call, Long.toString(got), Long.toString(want));
    }

    void due(String call, boolean got, boolean want) {
        dueText(call, Boolean.toString(got), Boolean.toString(want));
    }

    /** The call must throw an exception of just this class. */
    void dueThrows(String call, Class<? extends RuntimeException> want, Call made) {
        dueText(call, outcome(made), "throws." + want.getSimpleName());
    }

    void dueText(String call, String got, String want) {
        seen++;
        if (!got.equals(want)) {
            wrong++;
            System.out.println(call + " answered " + got + ", due is " + want);
        }
    }

    static String outcome(Call made) {
        try {
            return Long.toString(made.answer());
        } catch (RuntimeException e) {
            return "throws." + e.getClass().getSimpleName();
        }
    }

    int wrong() {
        return wrong;
    }

    void end() {
        System.out.println(seen + " answers, " + wrong + " wrong");
        if (wrong != 0 || seen == 0) {
            System.exit(1);
        }
    }
}
