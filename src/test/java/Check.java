/** Counts the answers of a test that are not the ones that are due. */
final class Check {
    /** A call whose answer, or exception, is looked at. */
    interface Call {
        long answer();
    }

    /** Numbers that no call takes as a ship, a place, an hour, a kind or a what. */
    static final int[] WILD = {Integer.MIN_VALUE, Integer.MIN_VALUE + 1, -1000, 1000, Integer.MAX_VALUE - 1,
        Integer.MAX_VALUE};

    static final Class<IllegalArgumentException> ARGUMENT = IllegalArgumentException.class;
    static final Class<IllegalStateException> STATE = IllegalStateException.class;
    static final Class<IndexOutOfBoundsException> INDEX = IndexOutOfBoundsException.class;
    static final Class<ArithmeticException> ARITHMETIC = ArithmeticException.class;

    private final String title;
    private int wrong;
    private int seen;

    Check(String title) {
        this.title = title;
    }

    void due(String call, long got, long want) {
        dueText(call, Long.toString(got), Long.toString(want));
    }

    void due(String call, boolean got, boolean want) {
        dueText(call, Boolean.toString(got), Boolean.toString(want));
    }

    /** The call must throw an exception of just this class. */
    void dueThrows(String call, Class<? extends RuntimeException> want, Call made) {
        dueText(call, outcome(made), "throws." + want.getSimpleName());
    }

    /** The ship must lie at this place from this hour on by the plan. */
    void dueBerth(String run, BerthPlan x, int ship, int place, int hour) {
        dueText(run + ": berth of ship " + ship,
                outcome(() -> x.at(ship, 0)) + " at " + outcome(() -> x.at(ship, 1)), place + " at " + hour);
    }

    void dueText(String call, String got, String want) {
        seen++;
        if (!got.equals(want)) {
            wrong++;
            System.out.println(title + ": " + call + " answered " + got + ", due is " + want);
        }
    }

    static String outcome(Call made) {
        try {
            return Long.toString(made.answer());
        } catch (RuntimeException e) {
            // A division by zero is the machine's exception: of the class that is due, but not thrown by the program.
            String by = "/ by zero".equals(e.getMessage()) ? "machine." : "throws.";
            return by + e.getClass().getSimpleName();
        }
    }

    int wrong() {
        return wrong;
    }

    void end() {
        System.out.println(seen + " answers, " + wrong + " wrong");
        if (wrong != 0 || seen == 0) {
            System.exit(1);
        }
    }
}
