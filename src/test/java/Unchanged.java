import java.util.function.Consumer;

/**
 * Whether a refused call changes something that later calls show: two objects are made alike, one of
 * them hears the refused call, and then both have to answer the same to long runs of other calls. An
 * object hears at most 512 calls, so each of the runs has two objects of its own.
 */
final class Unchanged {
    private static final int SHIPS = 4;
    private static final int MOST_PLACES = 6;
    private static final int BEGINS = 16;

    /** Calls made one after the other, with their answers as a text. */
    private static final class Run {
        final BerthPlan x;
        final StringBuilder answers = new StringBuilder();

        Run(BerthPlan x) {
            this.x = x;
        }

        void hear(Check.Call call) {
            answers.append(Check.outcome(call)).append(' ');
        }

        void is(boolean answer) {
            answers.append(answer ? "true " : "false ");
        }

        void berths() {
            for (int ship = 0; ship < SHIPS; ship++) {
                int number = ship;
                hear(() -> x.at(number, 0));
                hear(() -> x.at(number, 1));
            }
            hear(x::lateness);
        }

        void freeAll() {
            for (int ship = 0; ship < SHIPS; ship++) {
                is(x.free(ship));
            }
        }
    }

    private Unchanged() {
    }

    static void due(Check check, String call, Consumer<BerthPlan> refused, Quays... situations) {
        for (Quays quay : situations) {
            String name = call + " changes nothing that later calls show, quay " + quay;
            dueSame(check, name + ", looks", quay, refused, Unchanged::looks);
            dueSame(check, name + ", lies", quay, refused, Unchanged::lies);
            dueSame(check, name + ", solve and change", quay, refused, Unchanged::solveAndChange);
            dueSame(check, name + ", wants and gear", quay, refused, Unchanged::wantsAndGear);
            dueSame(check, name + ", fix and free", quay, refused, Unchanged::fixAndFree);
            dueSame(check, name + ", tide", quay, refused, Unchanged::tide);
            dueSame(check, name + ", more ships", quay, refused, Unchanged::moreShips);
            dueSame(check, name + ", ships as they are", quay, refused, Unchanged::shipsAsTheyAre);
            dueSame(check, name + ", needs", quay, refused, Unchanged::needs);
        }
    }

    private static void dueSame(Check check, String name, Quays quay, Consumer<BerthPlan> refused,
            Consumer<Run> later) {
        Run as = new Run(quay.made());
        later.accept(as);
        Run after = new Run(quay.made());
        try {
            refused.accept(after.x);
        } catch (RuntimeException e) {
            // Which one it is, the test of the call itself looks at.
        }
        later.accept(after);
        check.dueText(name, after.answers.toString(), as.answers.toString());
    }

    private static void looks(Run run) {
        for (int i = -1; i <= 26; i++) {
            int what = i;
            run.hear(() -> run.x.count(what));
        }
        for (int i = -1; i <= SHIPS; i++) {
            int ship = i;
            run.hear(() -> run.x.why(ship));
            run.hear(() -> run.x.at(ship, 2));
        }
        run.berths();
        run.hear(run.x::bound);
        for (int i = 0; i <= 101; i++) {
            int depth = i;
            run.hear(() -> run.x.share(1000, 7, depth));
        }
    }

    private static void lies(Run run) {
        for (int p = 0; p < MOST_PLACES; p++) {
            for (int h = 0; h < 40; h++) {
                int place = p;
                int hour = h;
                run.hear(() -> run.x.lies(place, hour));
            }
        }
    }

    private static void solveAndChange(Run run) {
        run.hear(run.x::solve);
        run.berths();
        for (int i = 0; i < BEGINS; i++) {
            int hour = i;
            run.hear(() -> run.x.change(hour % SHIPS, hour));
            run.berths();
            run.hear(run.x::solve);
        }
    }

    private static void wantsAndGear(Run run) {
        for (int kind = 0; kind < 8; kind++) {
            for (int ship = 0; ship < SHIPS; ship++) {
                run.is(run.x.wants(ship, kind, true));
            }
            for (int place = 0; place < MOST_PLACES; place++) {
                run.is(run.x.gear(place, kind, false));
            }
        }
    }

    private static void fixAndFree(Run run) {
        for (int place = 0; place < MOST_PLACES; place++) {
            for (int hour = 0; hour < BEGINS; hour++) {
                run.is(run.x.fix(0, place, hour));
                run.is(run.x.free(0));
            }
        }
        run.freeAll();
        run.hear(() -> run.x.count(4));
    }

    /** With nothing else in its way the first ship tells the hours of the tide. */
    private static void tide(Run run) {
        run.freeAll();
        for (int kind = 0; kind < 8; kind++) {
            run.is(run.x.wants(0, kind, false));
        }
        run.is(run.x.depth(0, run.x.count(0) - 1, 100));
        for (int i = 0; i < BEGINS; i++) {
            int hour = i;
            run.hear(run.x::solve);
            run.hear(() -> run.x.change(0, hour));
            run.hear(() -> run.x.at(0, 1));
            run.hear(() -> run.x.why(0));
        }
        for (int span = 0; span < 9; span++) {
            run.is(run.x.tide(span, 39));
            run.hear(() -> run.x.count(2));
        }
    }

    private static void moreShips(Run run) {
        for (int i = 0; i < SHIPS + 1; i++) {
            int need = i;
            run.hear(() -> run.x.ship(1, need, 1, 15, 1));
            run.hear(run.x::solve);
            run.berths();
        }
    }

    /** Each ship fixed in its turn, so that the plan shows its length, time, weight and arrival. */
    private static void shipsAsTheyAre(Run run) {
        for (int i = 0; i < SHIPS; i++) {
            run.freeAll();
            run.is(run.x.fix(i, 0, 0));
            run.hear(run.x::solve);
            run.berths();
            for (int p = 0; p < MOST_PLACES; p++) {
                int place = p;
                run.hear(() -> run.x.lies(place, 0));
            }
            for (int h = 0; h < 25; h++) {
                int hour = h;
                run.hear(() -> run.x.lies(0, hour));
            }
        }
    }

    private static void needs(Run run) {
        run.freeAll();
        int last = run.x.count(0) - 1;
        for (int depth = 0; depth <= 100; depth += 5) {
            run.is(run.x.depth(0, last, depth));
            for (int i = 0; i < SHIPS; i++) {
                int ship = i;
                run.hear(() -> run.x.why(ship));
            }
        }
    }
}
