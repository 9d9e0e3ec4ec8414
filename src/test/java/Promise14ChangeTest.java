/**
 * Promise 14: a ship ARRIVES at another hour, and the plan is made anew: how many ships have another berth;
 * -1 if there is no plan now. IndexOutOfBoundsException if there is no such ship; IllegalArgumentException
 * if the hour can't be; IllegalStateException without a plan.
 */
public final class Promise14ChangeTest {
    private static final Check CHECK = new Check("Promise 14, change");

    public static void main(String[] args) {
        noneHasAnotherBerth();
        anotherHourIsAnotherBerth();
        anotherPlaceIsAnotherBerth();
        itsOwnBerthCountsAsOthersDo();
        allHaveAnotherBerth();
        countedAgainstThePlanAhead();
        fixedShip();
        firstAndLastShipTaken();
        firstAndLastHourTaken();
        thePlanStandsAnew();
        noPlanNow();
        noPlanNowKeepsTheArrival();
        shipsJustOutsideRefused();
        hoursJustOutsideRefused();
        withoutAPlanRefused();
        noSuchShipIsToldFirst();
        noSuchHourIsToldSecond();
        refusedChangeChangesNothing();
        CHECK.end();
    }

    private static void dueChange(String run, BerthPlan x, int ship, int arrives, int want) {
        CHECK.due(run + ": change(" + ship + ", " + arrives + ")", x.change(ship, arrives), want);
    }

    private static BerthPlan solved(int places, int[]... ships) {
        BerthPlan x = new BerthPlan(places);
        for (int[] s : ships) {
            x.ship(s[0], 0, s[1], s[2], s[3]);
        }
        x.solve();
        return x;
    }

    private static void noneHasAnotherBerth() {
        BerthPlan x = solved(1, new int[] {1, 4, 0, 9}, new int[] {1, 4, 0, 1});
        CHECK.dueBerth("it waits", x, 1, 0, 4);
        dueChange("to the same hour", x, 1, 0, 0);
        dueChange("to the hour of its berth", x, 1, 4, 0);
        CHECK.due("lateness", x.lateness(), 0);
        dueChange("and back", x, 1, 1, 0);
        CHECK.due("lateness", x.lateness(), 3);
    }

    private static void anotherHourIsAnotherBerth() {
        BerthPlan x = solved(2, new int[] {1, 4, 0, 1}, new int[] {1, 4, 0, 1});
        dueChange("an hour later at its place", x, 1, 1, 1);
        CHECK.dueBerth("an hour later at its place", x, 1, 1, 1);
        dueChange("an hour sooner at its place", x, 1, 0, 1);
        CHECK.dueBerth("an hour sooner at its place", x, 1, 1, 0);
    }

    private static void anotherPlaceIsAnotherBerth() {
        BerthPlan x = new BerthPlan(2);
        x.ship(1, 0, 4, 0, 1);
        x.ship(1, 0, 1, 0, 1);
        x.ship(1, 0, 1, 7, 1);
        x.fix(0, 0, 4);
        x.solve();
        CHECK.dueBerth("ahead of the change", x, 2, 1, 7);
        dueChange("behind the fixed one", x, 2, 8, 1);
        CHECK.dueBerth("another place and hour", x, 2, 0, 8);
        BerthPlan y = solved(2, new int[] {1, 2, 1, 1}, new int[] {1, 2, 2, 1});
        CHECK.dueBerth("ahead of the change", y, 1, 1, 2);
        dueChange("the first leaves, the second has its place at its hour", y, 0, 9, 2);
        CHECK.dueBerth("the same hour at another place", y, 1, 0, 2);
    }

    private static void itsOwnBerthCountsAsOthersDo() {
        BerthPlan x = solved(1, new int[] {1, 4, 0, 9}, new int[] {1, 3, 0, 1});
        CHECK.dueBerth("ahead of the changes", x, 1, 0, 4);
        dueChange("the other one comes ahead of it", x, 0, 3, 2);
        CHECK.dueBerth("the other one comes ahead of it", x, 1, 0, 0);
        dueChange("the other one stays", x, 0, 4, 1);
        CHECK.dueBerth("the other one stays", x, 1, 0, 0);
    }

    private static void allHaveAnotherBerth() {
        BerthPlan x = solved(1, new int[] {1, 2, 0, 100}, new int[] {1, 3, 0, 90}, new int[] {1, 4, 0, 80},
                new int[] {1, 5, 0, 7});
        CHECK.dueBerth("ahead of the change", x, 3, 0, 9);
        dueChange("the first comes last", x, 0, 15, 4);
        CHECK.dueBerth("after the change", x, 0, 0, 15);
        CHECK.dueBerth("after the change", x, 1, 0, 0);
        CHECK.dueBerth("after the change", x, 2, 0, 3);
        CHECK.dueBerth("after the change", x, 3, 0, 7);
        dueChange("the first comes first again", x, 0, 0, 4);
        dueChange("as it is", x, 0, 0, 0);
    }

    /** The plan ahead is that of the last change, not that of solve. */
    private static void countedAgainstThePlanAhead() {
        BerthPlan x = solved(1, new int[] {1, 1, 0, 1});
        dueChange("to 5", x, 0, 5, 1);
        dueChange("to 5 again", x, 0, 5, 0);
        dueChange("to 0 as at first", x, 0, 0, 1);
    }

    private static void fixedShip() {
        BerthPlan x = new BerthPlan(1);
        x.ship(1, 0, 4, 2, 3);
        x.fix(0, 0, 2);
        x.solve();
        dueChange("a fixed one", x, 0, 15, 0);
        CHECK.due("its lateness", x.lateness(), -39);
        CHECK.due("its hours late", x.at(0, 2), -13);
        CHECK.due("fixed ships", x.count(4), 1);
    }

    private static void firstAndLastShipTaken() {
        BerthPlan x = Quays.FULL.made();
        dueChange("the first, as it is", x, 0, 0, 0);
        dueChange("the last, as it is", x, 3, 15, 0);
        BerthPlan y = solved(4, new int[] {1, 1, 3, 1}, new int[] {1, 1, 3, 1}, new int[] {1, 1, 3, 1},
                new int[] {1, 1, 3, 1});
        dueChange("the last", y, 3, 1, 1);
        CHECK.dueBerth("the last", y, 3, 0, 1);
        dueChange("the first, so that each other one has another place", y, 0, 1, 4);
        CHECK.dueBerth("the first", y, 0, 0, 1);
        CHECK.dueBerth("the second", y, 1, 0, 3);
        CHECK.dueBerth("the last", y, 3, 1, 1);
    }

    private static void firstAndLastHourTaken() {
        BerthPlan x = solved(1, new int[] {1, 24, 7, 1});
        dueChange("to the last hour", x, 0, 15, 1);
        CHECK.dueBerth("at the last hour", x, 0, 0, 15);
        dueChange("to the first hour", x, 0, 0, 1);
        CHECK.dueBerth("at the first hour", x, 0, 0, 0);
    }

    private static void thePlanStandsAnew() {
        BerthPlan x = solved(1, new int[] {1, 4, 0, 1}, new int[] {1, 4, 0, 1});
        x.change(0, 3);
        CHECK.due("plan", x.count(3), 1);
        CHECK.due("lateness", x.lateness(), 1);
        CHECK.due("hours late", x.at(0, 2), 1);
        CHECK.due("who lies there", x.lies(0, 4), 0);
        CHECK.due("who lies there", x.lies(0, 3), 1);
        CHECK.due("solve", x.solve(), 1);
        CHECK.dueBerth("solved again", x, 0, 0, 4);
    }

    private static void noPlanNow() {
        BerthPlan x = new BerthPlan(1);
        x.ship(1, 0, 4, 2, 3);
        x.tide(0, 9);
        x.solve();
        dueChange("to the last hour of the tide", x, 0, 9, 1);
        dueChange("to behind the tide", x, 0, 10, -1);
        CHECK.due("plan", x.count(3), 0);
        CHECK.dueThrows("at", Check.STATE, () -> x.at(0, 0));
        CHECK.dueThrows("lateness", Check.STATE, x::lateness);
        CHECK.dueThrows("lies", Check.STATE, () -> x.lies(0, 0));
        CHECK.dueThrows("change back", Check.STATE, () -> x.change(0, 2));
        BerthPlan y = solved(1, new int[] {1, 16, 0, 1}, new int[] {1, 1, 0, 1});
        dueChange("the last hour at which both can be", y, 0, 15, 1);
        BerthPlan z = solved(1, new int[] {1, 15, 0, 1}, new int[] {1, 15, 0, 1});
        CHECK.dueBerth("it begins at the last hour", z, 1, 0, 15);
        dueChange("an hour more than both have", z, 0, 1, 2);
        dueChange("neither can wait for the other", z, 1, 1, -1);
    }

    private static void noPlanNowKeepsTheArrival() {
        BerthPlan x = new BerthPlan(1);
        x.ship(1, 0, 4, 2, 3);
        x.tide(0, 9);
        x.solve();
        x.change(0, 10);
        CHECK.due("why", x.why(0), 4);
        CHECK.due("solve", x.solve(), 0);
        x.tide(11, 11);
        CHECK.due("solve", x.solve(), 1);
        CHECK.due("hours late", x.at(0, 2), 1);
    }

    private static void shipsJustOutsideRefused() {
        for (Quays quay : Quays.values()) {
            BerthPlan x = quay.made();
            int ships = x.count(1);
            for (int ship : new int[] {-1, ships, 4}) {
                CHECK.dueThrows("change(" + ship + ", 0) of " + ships + " ships", Check.INDEX,
                        () -> x.change(ship, 0));
            }
            for (int ship : Check.WILD) {
                CHECK.dueThrows("change(" + ship + ", 0) of " + ships + " ships", Check.INDEX,
                        () -> x.change(ship, 0));
            }
        }
    }

    private static void dueArgument(BerthPlan x, int ship, int arrives) {
        CHECK.dueThrows("change(" + ship + ", " + arrives + ")", Check.ARGUMENT, () -> x.change(ship, arrives));
    }

    private static void hoursJustOutsideRefused() {
        for (Quays quay : new Quays[] {Quays.PLANNED, Quays.FULL}) {
            BerthPlan x = quay.made();
            for (int ship = 0; ship < x.count(1); ship++) {
                dueArgument(x, ship, -1);
                dueArgument(x, ship, 16);
                for (int arrives : Check.WILD) {
                    dueArgument(x, ship, arrives);
                }
            }
            CHECK.due("plan after refused calls", x.count(3), 1);
        }
    }

    private static void withoutAPlanRefused() {
        for (Quays quay : Quays.WITHOUT_A_PLAN) {
            BerthPlan x = quay.made();
            CHECK.dueThrows("change(0, 0), quay " + quay, Check.STATE, () -> x.change(0, 0));
            CHECK.dueThrows("change(0, 15), quay " + quay, Check.STATE, () -> x.change(0, 15));
            CHECK.due("plan after refused calls, quay " + quay, x.count(3), 0);
        }
        BerthPlan x = Quays.UNSOLVED.made();
        CHECK.dueThrows("change ahead of solve", Check.STATE, () -> x.change(0, 15));
        x.solve();
        CHECK.dueBerth("the arrival is as it was", x, 0, 0, 0);
        dueChange("with a plan", x, 0, 15, 1);
    }

    private static void noSuchShipIsToldFirst() {
        for (Quays quay : Quays.values()) {
            BerthPlan x = quay.made();
            CHECK.dueThrows("no such ship, no such hour", Check.INDEX, () -> x.change(-1, 16));
            CHECK.dueThrows("no such ship, no such hour", Check.INDEX, () -> x.change(x.count(1), -1));
            CHECK.dueThrows("no such ship, and perhaps no plan", Check.INDEX, () -> x.change(4, 0));
        }
    }

    private static void noSuchHourIsToldSecond() {
        for (Quays quay : Quays.WITHOUT_A_PLAN) {
            BerthPlan x = quay.made();
            dueArgument(x, 0, -1);
            dueArgument(x, 0, 16);
            CHECK.dueThrows("an hour that can be", Check.STATE, () -> x.change(0, 15));
        }
    }

    private static void refusedChangeChangesNothing() {
        int[][] refused = {{-1, 0}, {4, 0}, {0, -1}, {0, 16}, {2, 16}, {-1, 16}};
        for (int[] r : refused) {
            Unchanged.due(CHECK, "change(" + r[0] + ", " + r[1] + ")", x -> x.change(r[0], r[1]), Quays.values());
        }
        Unchanged.due(CHECK, "change without a plan", x -> x.change(0, 9), Quays.WITHOUT_A_PLAN);
        Unchanged.due(CHECK, "change without a plan", x -> x.change(2, 0), Quays.VOID, Quays.STUCK);
    }
}
