import java.util.Random;

/** THE PLAN for four ships that are in one another's way, compared with that of NaiveModel. */
public final class CrowdedQuayTest {
    private static final int RUNS = 6000;

    private final Check check = new Check("Crowded quay");
    private final Random random = new Random(4711);
    private BerthPlan x;
    private NaiveModel y;

    public static void main(String[] args) {
        CrowdedQuayTest test = new CrowdedQuayTest();
        for (int run = 1; run <= RUNS && test.check.wrong() < 20; run++) {
            test.fill();
            test.look("run " + run);
        }
        test.check.end();
    }

    private int between(int least, int most) {
        return least + random.nextInt(most - least + 1);
    }

    private void fill() {
        int places = between(1, 6);
        x = new BerthPlan(places);
        y = new NaiveModel(places);
        int mostTime = between(1, 10);
        int mostWeight = random.nextBoolean() ? between(1, 3) : 100;
        int mostArrives = between(0, 5);
        for (int i = 0; i < 4; i++) {
            int length = between(1, Math.min(places, between(1, 6)));
            int time = between(1, mostTime);
            int arrives = between(0, mostArrives);
            int weight = between(1, mostWeight);
            x.ship(length, 0, time, arrives, weight);
            y.ship(length, 0, time, arrives, weight);
        }
        for (int spans = random.nextInt(3) == 0 ? 4 : 0; spans > 0; spans--) {
            int from = between(0, 15);
            int to = from + between(0, 2);
            x.tide(from, to);
            y.tide(from, to);
        }
        for (int fixed = random.nextInt(3); fixed > 0; fixed--) {
            int ship = between(0, 3);
            int place = between(0, 5);
            int hour = between(0, 15);
            x.fix(ship, place, hour);
            y.fix(ship, place, hour);
        }
    }

    private void look(String run) {
        check.due(run + ": solve", x.solve(), y.solve());
        dueSamePlan(run);
        int ship = between(0, 3);
        int arrives = between(0, 15);
        check.dueText(run + ": change", Check.outcome(() -> x.change(ship, arrives)),
                Check.outcome(() -> y.change(ship, arrives)));
        dueSamePlan(run + ", changed");
    }

    private void dueSamePlan(String run) {
        check.dueText(run + ": lateness", Check.outcome(x::lateness), Check.outcome(y::lateness));
        for (int i = 0; i < 4; i++) {
            int ship = i;
            check.dueText(run + ": place of " + ship, Check.outcome(() -> x.at(ship, 0)),
                    Check.outcome(() -> y.at(ship, 0)));
            check.dueText(run + ": hour of " + ship, Check.outcome(() -> x.at(ship, 1)),
                    Check.outcome(() -> y.at(ship, 1)));
        }
    }
}
