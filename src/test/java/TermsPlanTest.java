/**
 * Terms: a PLAN has a berth that may be for each ship, no two with a place and an hour in common. Its
 * LATENESS is the sum of WEIGHT * (hour - arrival) over all ships (below 0 for a fixed one that comes ahead).
 * THE PLAN is that of least lateness; of such the first: ships compared by number, the lesser hour, then the
 * lesser place ahead.
 */
public final class TermsPlanTest {
    private static final Check CHECK = new Check("Terms, the plan");

    public static void main(String[] args) {
        sideBySideByPlace();
        oneBehindAnotherByHour();
        gapJustLongEnough();
        gapBetweenFixedOnes();
        belowZeroForOneThatComesAhead();
        leastLatenessBesideOneThatComesAhead();
        leastLatenessByOne();
        likeShipsByNumber();
        lesserHourOfTheFirstShip();
        lesserPlaceOfTheFirstShip();
        lesserHourAheadOfLesserPlace();
        firstShipAheadOfTheSecond();
        secondShipIfTheFirstIsTheSame();
        lastShipsPlaceAtLast();
        latenessAheadOfAllOrder();
        CHECK.end();
    }

    private static BerthPlan solved(int places, int[]... ships) {
        BerthPlan x = new BerthPlan(places);
        for (int[] s : ships) {
            x.ship(s[0], 0, s[1], s[2], s[3]);
        }
        CHECK.due("solve", x.solve(), 1);
        return x;
    }

    /** A place and an hour for each ship in turn. */
    private static void duePlan(String run, BerthPlan x, int... berths) {
        for (int i = 0; i + 1 < berths.length; i += 2) {
            CHECK.dueBerth(run, x, i / 2, berths[i], berths[i + 1]);
        }
    }

    private static void sideBySideByPlace() {
        int[] two = {2, 5, 0, 1};
        duePlan("as long as the quay together", solved(4, two, two), 0, 0, 2, 0);
        duePlan("a place less", solved(3, two, two), 0, 0, 0, 5);
        int[] one = {1, 24, 0, 1};
        duePlan("four side by side", solved(4, one, one, one, one), 0, 0, 1, 0, 2, 0, 3, 0);
    }

    private static void oneBehindAnotherByHour() {
        BerthPlan x = solved(1, new int[] {1, 7, 0, 2}, new int[] {1, 7, 7, 1});
        duePlan("it arrives as the other leaves", x, 0, 0, 0, 7);
        CHECK.due("lateness", x.lateness(), 0);
        BerthPlan y = solved(1, new int[] {1, 7, 0, 2}, new int[] {1, 7, 6, 1});
        duePlan("it arrives an hour ahead of that", y, 0, 0, 0, 7);
        CHECK.due("lateness", y.lateness(), 1);
    }

    private static BerthPlan quayWithAGap(int time) {
        BerthPlan x = new BerthPlan(1);
        x.ship(1, 0, time, 0, 1);
        x.ship(1, 0, 2, 0, 1);
        x.ship(1, 0, 3, 0, 1);
        x.fix(1, 0, 1);
        x.fix(2, 0, 7);
        x.solve();
        return x;
    }

    /** Fixed ones take the hours 1, 2 and 7 .. 9: between them four hours are left. */
    private static void gapJustLongEnough() {
        duePlan("an hour ahead of both", quayWithAGap(1), 0, 0);
        duePlan("two hours between them", quayWithAGap(2), 0, 3);
        duePlan("four hours between them", quayWithAGap(4), 0, 3);
        duePlan("five hours behind them", quayWithAGap(5), 0, 10);
    }

    private static void gapBetweenFixedOnes() {
        BerthPlan x = new BerthPlan(4);
        x.ship(2, 0, 24, 0, 1);
        x.ship(1, 0, 24, 0, 1);
        x.ship(1, 0, 24, 0, 1);
        x.fix(1, 0, 0);
        x.fix(2, 3, 0);
        CHECK.due("two places between them", x.solve(), 1);
        duePlan("two places between them", x, 1, 0);
        x.fix(2, 2, 0);
        CHECK.due("one place between them, one behind", x.solve(), 0);
    }

    private static void belowZeroForOneThatComesAhead() {
        BerthPlan x = new BerthPlan(1);
        x.ship(1, 0, 1, 1, 1);
        x.fix(0, 0, 1);
        x.solve();
        CHECK.due("lateness at its arrival", x.lateness(), 0);
        x.fix(0, 0, 0);
        CHECK.due("solve", x.solve(), 1);
        CHECK.due("lateness an hour ahead", x.lateness(), -1);
        x.fix(0, 0, 2);
        x.solve();
        CHECK.due("lateness an hour late", x.lateness(), 1);
    }

    /** What the fixed one is ahead by is the same in all plans, and more than the others are late. */
    private static void leastLatenessBesideOneThatComesAhead() {
        BerthPlan x = new BerthPlan(1);
        x.ship(1, 0, 4, 0, 1);
        x.ship(1, 0, 4, 0, 2);
        x.ship(1, 0, 1, 15, 100);
        x.fix(2, 0, 8);
        CHECK.due("solve", x.solve(), 1);
        CHECK.due("lateness", x.lateness(), 4 - 700);
        duePlan("the heavier one first", x, 0, 4, 0, 0, 0, 8);
        x.fix(2, 0, 0);
        CHECK.due("solve", x.solve(), 1);
        CHECK.due("lateness", x.lateness(), 2 + 5 - 1500);
        duePlan("the fixed one ahead of both", x, 0, 5, 0, 1, 0, 0);
    }

    /** Either one waits 5 hours: the weight of one more decides, and alike it is the number. */
    private static void leastLatenessByOne() {
        int[] heavy = {1, 5, 0, 100};
        int[] light = {1, 5, 0, 99};
        int[] shorter = {1, 4, 0, 99};
        duePlan("the second is heavier by one", solved(1, light, heavy), 0, 5, 0, 0);
        duePlan("the first is heavier by one", solved(1, heavy, light), 0, 0, 0, 5);
        duePlan("alike", solved(1, light, light), 0, 0, 0, 5);
        duePlan("the second is shorter by an hour", solved(1, light, shorter), 0, 4, 0, 0);
    }

    private static void likeShipsByNumber() {
        int[] s = {1, 3, 0, 2};
        duePlan("one place", solved(1, s, s, s, s), 0, 0, 0, 3, 0, 6, 0, 9);
        duePlan("two places", solved(2, s, s, s, s), 0, 0, 1, 0, 0, 3, 1, 3);
        duePlan("three places", solved(3, s, s, s, s), 0, 0, 1, 0, 2, 0, 0, 3);
    }

    /** Ship 0 first: 2 * 0 + 1 * 2 + 1 * 3; behind the others: 2 * 2 + 0 + 1: as late. */
    private static void lesserHourOfTheFirstShip() {
        BerthPlan x = solved(1, new int[] {1, 2, 0, 2}, new int[] {1, 1, 0, 1}, new int[] {1, 1, 0, 1});
        CHECK.due("lateness", x.lateness(), 5);
        duePlan("the first ship first", x, 0, 0, 0, 2, 0, 3);
        BerthPlan y = solved(1, new int[] {1, 1, 0, 1}, new int[] {1, 2, 0, 2}, new int[] {1, 1, 0, 1});
        CHECK.due("lateness", y.lateness(), 5);
        duePlan("the first ship first", y, 0, 0, 0, 1, 0, 3);
    }

    private static void lesserPlaceOfTheFirstShip() {
        duePlan("any place is as good", solved(6, new int[] {1, 1, 4, 1}), 0, 4);
        duePlan("for the long one too", solved(6, new int[] {4, 1, 4, 1}), 0, 4);
        duePlan("whichever arrives first", solved(2, new int[] {1, 4, 1, 1}, new int[] {1, 4, 0, 1}), 0, 1, 1, 0);
        duePlan("whichever is longer", solved(3, new int[] {1, 4, 0, 1}, new int[] {2, 4, 0, 9}), 0, 0, 1, 0);
        duePlan("whichever is heavier", solved(2, new int[] {1, 4, 0, 1}, new int[] {1, 4, 0, 100}), 0, 0, 1, 0);
    }

    /**
     * Place 1 alone is deep enough for ship 1, and place 0 is taken until hour 2. Ship 0 at place 1 and
     * then ship 1, or ship 1 and ship 0 at hour 2 at either place: as late.
     */
    private static void lesserHourAheadOfLesserPlace() {
        BerthPlan x = new BerthPlan(2);
        x.ship(1, 0, 2, 0, 1);
        x.ship(1, 50, 2, 0, 1);
        x.ship(1, 0, 2, 0, 1);
        x.depth(1, 1, 50);
        x.fix(2, 0, 0);
        x.solve();
        CHECK.due("lateness", x.lateness(), 2);
        duePlan("the lesser hour at the greater place", x, 1, 0, 1, 2, 0, 0);
        x.fix(2, 0, 1);
        x.solve();
        // Place 0 is open from hour 3 on now, which is later than to wait at place 1.
        CHECK.due("lateness", x.lateness(), 3);
        duePlan("the lesser hour still", x, 1, 0, 1, 2, 0, 1);
    }

    /** Of the plans that are as late that one counts in which ship 0 is sooner, not most of the others. */
    private static void firstShipAheadOfTheSecond() {
        BerthPlan x = solved(1, new int[] {1, 2, 0, 2}, new int[] {1, 2, 0, 2}, new int[] {1, 1, 0, 1});
        CHECK.due("lateness", x.lateness(), 8);
        duePlan("the first ship first", x, 0, 0, 0, 2, 0, 4);
        BerthPlan y = solved(1, new int[] {1, 1, 2, 2}, new int[] {1, 3, 0, 2}, new int[] {1, 2, 0, 1});
        CHECK.due("lateness", y.lateness(), 6);
        duePlan("the first ship soonest", y, 0, 2, 0, 3, 0, 0);
    }

    private static void secondShipIfTheFirstIsTheSame() {
        BerthPlan x = solved(1, new int[] {1, 1, 0, 100}, new int[] {1, 2, 0, 2}, new int[] {1, 2, 0, 2},
                new int[] {1, 1, 0, 1});
        duePlan("the second ship next", x, 0, 0, 0, 1, 0, 3, 0, 5);
    }

    private static void lastShipsPlaceAtLast() {
        BerthPlan x = solved(6, new int[] {1, 4, 0, 1}, new int[] {1, 4, 0, 1}, new int[] {1, 4, 0, 1},
                new int[] {2, 4, 1, 1});
        duePlan("the last ship behind the others", x, 0, 0, 1, 0, 2, 0, 3, 1);
    }

    /** Ship 0 comes later, and at a greater place, if the sum is less by that. */
    private static void latenessAheadOfAllOrder() {
        BerthPlan x = solved(1, new int[] {1, 10, 0, 1}, new int[] {1, 1, 1, 100});
        duePlan("it waits two hours", x, 0, 2, 0, 1);
        CHECK.due("lateness", x.lateness(), 2);
        BerthPlan y = new BerthPlan(3);
        y.gear(0, 0, true);
        y.ship(1, 0, 5, 0, 1);
        y.ship(2, 0, 5, 0, 1);
        y.wants(1, 0, true);
        y.solve();
        duePlan("it leaves the place with the gear", y, 2, 0, 0, 0);
        CHECK.due("lateness", y.lateness(), 0);
    }
}
