/** Promise 9: THE PLAN is made: 1; 0 if there is none. */
public final class Promise09SolveTest {
    private static final Check CHECK = new Check("Promise 9, solve");

    public static void main(String[] args) {
        withoutShips();
        oneShipAndFour();
        again();
        lastBeginIsFifteen();
        noneForOneThatCantBeAlone();
        noneForOnesThatCantBeTogether();
        noneBesideFixedOnes();
        noneAndThenOne();
        noneLeavesNoPlan();
        heavierAheadOfTheFirstCome();
        lateOneMayWaitForTwo();
        placeThatLetsOthersComeSooner();
        CHECK.end();
    }

    private static void dueSolve(String run, BerthPlan x, int want) {
        CHECK.due(run + ": solve", x.solve(), want);
        CHECK.due(run + ": plan", x.count(3), want);
    }

    private static void withoutShips() {
        for (int places = 1; places <= 6; places++) {
            BerthPlan x = new BerthPlan(places);
            dueSolve("no ship", x, 1);
            CHECK.due("lateness of no ship", x.lateness(), 0);
            CHECK.due("who lies there", x.lies(0, 0), BerthPlan.NONE);
        }
        BerthPlan x = new BerthPlan(1);
        x.tide(39, 39);
        dueSolve("no ship and no hour", x, 1);
    }

    private static void oneShipAndFour() {
        BerthPlan x = new BerthPlan(1);
        for (int ship = 0; ship < 4; ship++) {
            x.ship(1, 0, 5, 0, 1);
            dueSolve(ship + 1 + " ships", x, 1);
            CHECK.due("hour of the last", x.at(ship, 1), 5 * ship);
        }
    }

    private static void again() {
        BerthPlan x = Quays.PLANNED.made();
        int lateness = x.lateness();
        int place = x.at(0, 0);
        int hour = x.at(0, 1);
        dueSolve("again", x, 1);
        CHECK.due("lateness again", x.lateness(), lateness);
        CHECK.dueBerth("again", x, 0, place, hour);
        BerthPlan y = Quays.STUCK.made();
        dueSolve("again without a plan", y, 0);
    }

    private static void lastBeginIsFifteen() {
        BerthPlan x = new BerthPlan(1);
        x.ship(1, 0, 14, 0, 1);
        x.ship(1, 0, 1, 0, 1);
        x.ship(1, 0, 24, 0, 1);
        dueSolve("the last one begins at 15", x, 1);
        CHECK.dueBerth("the last one begins at 15", x, 2, 0, 15);
        BerthPlan y = new BerthPlan(1);
        y.ship(1, 0, 15, 0, 1);
        y.ship(1, 0, 1, 0, 1);
        y.ship(1, 0, 15, 0, 1);
        dueSolve("the last one would begin at 16", y, 0);
    }

    private static void noneForOneThatCantBeAlone() {
        BerthPlan x = new BerthPlan(2);
        x.ship(1, 0, 1, 0, 1);
        dueSolve("one that can", x, 1);
        x.ship(3, 0, 1, 0, 1);
        dueSolve("longer than the quay", x, 0);
        BerthPlan y = new BerthPlan(2);
        y.ship(2, 20, 1, 0, 1);
        dueSolve("just deep enough", y, 1);
        y.depth(1, 1, 19);
        dueSolve("not deep enough", y, 0);
        BerthPlan z = new BerthPlan(2);
        z.ship(1, 0, 1, 5, 1);
        z.wants(0, 0, true);
        dueSolve("without its gear", z, 0);
        z.gear(1, 0, true);
        dueSolve("with its gear", z, 1);
        z.tide(0, 4);
        dueSolve("the tide ends ahead of its arrival", z, 0);
        z.tide(5, 5);
        dueSolve("the tide has its arrival", z, 1);
    }

    private static void noneForOnesThatCantBeTogether() {
        BerthPlan x = new BerthPlan(3);
        x.ship(2, 0, 15, 0, 1);
        x.ship(2, 0, 16, 0, 1);
        dueSolve("the longer one begins at 15", x, 1);
        CHECK.dueBerth("the longer one begins at 15", x, 1, 0, 15);
        BerthPlan y = new BerthPlan(3);
        y.ship(2, 0, 16, 0, 1);
        y.ship(2, 0, 16, 0, 1);
        dueSolve("either would begin at 16", y, 0);
        CHECK.due("bound", y.bound(), 0);
        BerthPlan z = new BerthPlan(4);
        z.ship(2, 0, 16, 0, 1);
        z.ship(2, 0, 16, 0, 1);
        dueSolve("one place more", z, 1);
        CHECK.dueBerth("one place more", z, 1, 2, 0);
    }

    private static void noneBesideFixedOnes() {
        BerthPlan x = new BerthPlan(2);
        x.ship(1, 0, 24, 0, 1);
        x.fix(0, 0, 4);
        x.ship(2, 0, 4, 0, 1);
        dueSolve("ahead of the fixed one", x, 1);
        CHECK.dueBerth("ahead of the fixed one", x, 1, 0, 0);
        x.fix(0, 1, 3);
        dueSolve("an hour less", x, 0);
        x.free(0);
        dueSolve("freed", x, 1);
    }

    private static void noneAndThenOne() {
        BerthPlan x = new BerthPlan(1);
        x.ship(1, 21, 1, 0, 1);
        dueSolve("not deep enough", x, 0);
        x.depth(0, 0, 21);
        CHECK.due("plan ahead of solve", x.count(3), 0);
        dueSolve("deep enough", x, 1);
    }

    private static void noneLeavesNoPlan() {
        BerthPlan x = Quays.STUCK.made();
        CHECK.due("plan", x.count(3), 0);
        CHECK.dueThrows("at", Check.STATE, () -> x.at(0, 0));
        CHECK.dueThrows("lateness", Check.STATE, x::lateness);
        CHECK.dueThrows("lies", Check.STATE, () -> x.lies(0, 0));
        CHECK.dueThrows("change", Check.STATE, () -> x.change(0, 0));
    }

    private static void heavierAheadOfTheFirstCome() {
        BerthPlan x = new BerthPlan(1);
        x.ship(1, 0, 10, 0, 1);
        x.ship(1, 0, 2, 3, 100);
        dueSolve("heavier first", x, 1);
        CHECK.dueBerth("heavier first", x, 0, 0, 5);
        CHECK.dueBerth("heavier first", x, 1, 0, 3);
        CHECK.due("lateness", x.lateness(), 5);
    }

    private static void lateOneMayWaitForTwo() {
        BerthPlan x = new BerthPlan(2);
        x.ship(2, 0, 6, 0, 3);
        x.ship(1, 0, 4, 1, 2);
        x.ship(1, 0, 3, 1, 2);
        dueSolve("two light ones behind", x, 1);
        // 2 * 5 + 2 * 5 behind it, 3 * 5 ahead of it.
        CHECK.due("lateness", x.lateness(), 15);
        CHECK.dueBerth("it waits", x, 0, 0, 5);
        CHECK.dueBerth("the first light one", x, 1, 0, 1);
        CHECK.dueBerth("the second light one", x, 2, 1, 1);
    }

    /** At place 0 the first ship would be as soon, but in the way of one that is deep there alone. */
    private static void placeThatLetsOthersComeSooner() {
        BerthPlan x = new BerthPlan(2);
        x.depth(0, 0, 90);
        x.ship(1, 0, 5, 0, 1);
        x.ship(1, 90, 5, 0, 1);
        dueSolve("the deep place is left", x, 1);
        CHECK.due("lateness", x.lateness(), 0);
        CHECK.dueBerth("the first ship", x, 0, 1, 0);
        CHECK.dueBerth("the deep ship", x, 1, 0, 0);
    }
}
