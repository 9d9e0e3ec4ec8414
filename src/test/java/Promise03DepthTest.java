/**
 * Promise 3: places from one to another one have a DEPTH: true; false if they are no places, the first
 * behind the second, or it can't be.
 */
public final class Promise03DepthTest {
    private static final Check CHECK = new Check("Promise 3, depth");

    public static void main(String[] args) {
        firstAndLastPlaceTaken();
        placesJustOutsideRefused();
        wildPlacesRefused();
        onePlaceTakenFirstBehindSecondRefused();
        leastAndGreatestDepthTaken();
        depthsJustOutsideRefused();
        onlyThesePlacesChange();
        depthAsItIsIsTaken();
        refusedDepthChangesNothing();
        CHECK.end();
    }

    private static void dueDepth(BerthPlan x, int from, int to, int depth, boolean want) {
        CHECK.due("depth(" + from + ", " + to + ", " + depth + ") of " + x.count(0) + " places",
                x.depth(from, to, depth), want);
    }

    private static void dueDepths(String run, BerthPlan x, int... want) {
        for (int place = 0; place < want.length; place++) {
            CHECK.due(run + ": depth of place " + place, x.count(10 + place), want[place]);
        }
    }

    private static void firstAndLastPlaceTaken() {
        for (int places = 1; places <= 6; places++) {
            BerthPlan x = new BerthPlan(places);
            dueDepth(x, 0, 0, 31, true);
            CHECK.due("depth of the first place", x.count(10), 31);
            dueDepth(x, places - 1, places - 1, 32, true);
            CHECK.due("depth of the last place", x.count(10 + places - 1), 32);
            dueDepth(x, 0, places - 1, 33, true);
            for (int place = 0; place < places; place++) {
                CHECK.due("depth of place " + place, x.count(10 + place), 33);
            }
        }
    }

    private static void placesJustOutsideRefused() {
        for (int places = 1; places <= 6; places++) {
            BerthPlan x = new BerthPlan(places);
            dueDepth(x, -1, 0, 5, false);
            dueDepth(x, -1, -1, 5, false);
            dueDepth(x, 0, places, 5, false);
            dueDepth(x, places - 1, places, 5, false);
            dueDepth(x, places, places, 5, false);
            dueDepth(x, -1, places, 5, false);
            for (int place = 0; place < places; place++) {
                CHECK.due("depth of place " + place + " after refused calls", x.count(10 + place), 20);
            }
        }
    }

    private static void wildPlacesRefused() {
        BerthPlan x = new BerthPlan(6);
        for (int place : Check.WILD) {
            dueDepth(x, place, 5, 5, false);
            dueDepth(x, 0, place, 5, false);
            dueDepth(x, place, place, 5, false);
        }
        dueDepth(x, Integer.MIN_VALUE, Integer.MAX_VALUE, 5, false);
        dueDepths("wild places", x, 20, 20, 20, 20, 20, 20);
    }

    private static void onePlaceTakenFirstBehindSecondRefused() {
        BerthPlan x = new BerthPlan(4);
        dueDepth(x, 2, 2, 40, true);
        dueDepth(x, 2, 1, 50, false);
        dueDepth(x, 3, 0, 50, false);
        dueDepths("the first behind the second", x, 20, 20, 40, 20);
        dueDepth(x, 1, 2, 50, true);
        dueDepths("the first ahead of the second", x, 20, 50, 50, 20);
    }

    private static void leastAndGreatestDepthTaken() {
        BerthPlan x = new BerthPlan(2);
        dueDepth(x, 0, 0, 0, true);
        dueDepth(x, 1, 1, 100, true);
        dueDepths("the least and the greatest depth", x, 0, 100);
    }

    private static void depthsJustOutsideRefused() {
        BerthPlan x = new BerthPlan(2);
        dueDepth(x, 0, 0, -1, false);
        dueDepth(x, 1, 1, 101, false);
        for (int depth : Check.WILD) {
            dueDepth(x, 0, 1, depth, false);
        }
        dueDepths("depths that can't be", x, 20, 20);
    }

    private static void onlyThesePlacesChange() {
        BerthPlan x = new BerthPlan(6);
        dueDepth(x, 2, 3, 7, true);
        dueDepths("two places", x, 20, 20, 7, 7, 20, 20);
        dueDepth(x, 3, 5, 9, true);
        dueDepths("three places", x, 20, 20, 7, 9, 9, 9);
    }

    private static void depthAsItIsIsTaken() {
        BerthPlan x = Quays.PLANNED.made();
        dueDepth(x, 0, 0, 20, true);
        CHECK.due("plan after a depth as it is", x.count(3), 0);
    }

    private static void refusedDepthChangesNothing() {
        int[][] refused = {{-1, 0, 5}, {0, 6, 5}, {1, 0, 5}, {0, 0, -1}, {0, 0, 101}, {0, 3, 101}};
        for (int[] r : refused) {
            Unchanged.due(CHECK, "depth(" + r[0] + ", " + r[1] + ", " + r[2] + ")",
                    x -> x.depth(r[0], r[1], r[2]), Quays.values());
        }
    }
}
