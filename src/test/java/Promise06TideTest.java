/**
 * Promise 6: one more span of TIDE: true; false if these are no hours, the first behind the second, or
 * there are 8.
 */
public final class Promise06TideTest {
    private static final Check CHECK = new Check("Promise 6, tide");

    public static void main(String[] args) {
        firstAndLastHourTaken();
        hoursJustOutsideRefused();
        wildHoursRefused();
        oneHourTakenFirstBehindSecondRefused();
        eightTakenTheNinthRefused();
        likeSpansCountEach();
        refusedSpansDoNotCount();
        spanBehindTheBeginsIsTaken();
        refusedTideChangesNothing();
        CHECK.end();
    }

    private static void dueTide(BerthPlan x, int from, int to, boolean want) {
        CHECK.due("tide(" + from + ", " + to + ")", x.tide(from, to), want);
    }

    private static void firstAndLastHourTaken() {
        BerthPlan x = new BerthPlan(1);
        dueTide(x, 0, 0, true);
        dueTide(x, 39, 39, true);
        dueTide(x, 0, 39, true);
        dueTide(x, 0, 1, true);
        dueTide(x, 38, 39, true);
        CHECK.due("spans", x.count(2), 5);
    }

    private static void hoursJustOutsideRefused() {
        BerthPlan x = new BerthPlan(1);
        dueTide(x, -1, 0, false);
        dueTide(x, -1, -1, false);
        dueTide(x, -1, 39, false);
        dueTide(x, 39, 40, false);
        dueTide(x, 40, 40, false);
        dueTide(x, 0, 40, false);
        dueTide(x, -1, 40, false);
        CHECK.due("spans", x.count(2), 0);
    }

    private static void wildHoursRefused() {
        BerthPlan x = new BerthPlan(1);
        for (int hour : Check.WILD) {
            dueTide(x, hour, 39, false);
            dueTide(x, 0, hour, false);
            dueTide(x, hour, hour, false);
        }
        dueTide(x, Integer.MIN_VALUE, Integer.MAX_VALUE, false);
        dueTide(x, Integer.MAX_VALUE, Integer.MIN_VALUE, false);
        CHECK.due("spans", x.count(2), 0);
    }

    private static void oneHourTakenFirstBehindSecondRefused() {
        BerthPlan x = new BerthPlan(1);
        x.ship(1, 0, 1, 0, 1);
        dueTide(x, 6, 5, false);
        dueTide(x, 39, 0, false);
        dueTide(x, 1, 0, false);
        CHECK.due("bound without a span", x.bound(), 0);
        dueTide(x, 6, 6, true);
        CHECK.due("bound by a span of one hour", x.bound(), 6);
        dueTide(x, 5, 6, true);
        CHECK.due("bound by a span of two hours", x.bound(), 5);
    }

    private static void eightTakenTheNinthRefused() {
        BerthPlan x = new BerthPlan(1);
        x.ship(1, 0, 1, 0, 1);
        for (int span = 1; span <= 8; span++) {
            dueTide(x, 15 - span, 15 - span, true);
            CHECK.due("spans", x.count(2), span);
            CHECK.due("bound by span " + span, x.bound(), 15 - span);
        }
        dueTide(x, 0, 0, false);
        dueTide(x, 0, 39, false);
        CHECK.due("spans", x.count(2), 8);
        CHECK.due("bound as it was", x.bound(), 7);
    }

    private static void likeSpansCountEach() {
        BerthPlan x = new BerthPlan(1);
        for (int span = 1; span <= 8; span++) {
            dueTide(x, 3, 9, true);
            CHECK.due("spans", x.count(2), span);
        }
        dueTide(x, 3, 9, false);
    }

    private static void refusedSpansDoNotCount() {
        BerthPlan x = new BerthPlan(1);
        for (int i = 0; i < 20; i++) {
            dueTide(x, 1, 0, false);
            dueTide(x, 0, 40, false);
        }
        for (int span = 0; span < 8; span++) {
            dueTide(x, 0, 0, true);
        }
        dueTide(x, 0, 0, false);
    }

    /** The hours go to 39, though no ship begins behind 15. */
    private static void spanBehindTheBeginsIsTaken() {
        BerthPlan x = new BerthPlan(1);
        x.ship(1, 0, 1, 0, 1);
        dueTide(x, 16, 39, true);
        CHECK.due("why with a span from 16 on", x.why(0), 4);
        dueTide(x, 15, 39, true);
        CHECK.due("why with a span from 15 on", x.why(0), 0);
        CHECK.due("bound with a span from 15 on", x.bound(), 15);
    }

    private static void refusedTideChangesNothing() {
        int[][] refused = {{-1, 5}, {0, 40}, {40, 40}, {5, 4}};
        for (int[] r : refused) {
            Unchanged.due(CHECK, "tide(" + r[0] + ", " + r[1] + ")", x -> x.tide(r[0], r[1]), Quays.values());
        }
        Unchanged.due(CHECK, "a ninth span", x -> x.tide(0, 39), Quays.FULL);
        Unchanged.due(CHECK, "a ninth span", x -> x.tide(1, 1), Quays.FULL);
    }
}
