/**
 * Promise 7: a ship is FIXED to a place and an hour (0 .. 15): true; false if there is none such, it would
 * not lie within the quay, or have a place and hour in common with one that is fixed.
 */
public final class Promise07FixTest {
    private static final Check CHECK = new Check("Promise 7, fix");

    public static void main(String[] args) {
        firstAndLastShipTaken();
        shipsJustOutsideRefused();
        firstAndLastHourTaken();
        hoursJustOutsideRefused();
        firstAndLastPlaceWithinTheQuay();
        longerThanTheQuayRefused();
        wildPlacesAndHoursRefused();
        besideAFixedOneTaken();
        acrossAFixedOneRefused();
        aroundAndWithinAFixedOneRefused();
        shipThatIsNotFixedIsNotInTheWay();
        freedShipIsNotInTheWay();
        fixedAnew();
        refusedAnewStaysWhereItWas();
        fixedWhateverItsNeeds();
        allFixedAtOnce();
        refusedFixChangesNothing();
        CHECK.end();
    }

    private static void dueFix(BerthPlan x, int ship, int place, int hour, boolean want) {
        CHECK.due("fix(" + ship + ", " + place + ", " + hour + ") of " + x.count(0) + " places and "
                + x.count(1) + " ships", x.fix(ship, place, hour), want);
    }

    private static BerthPlan quayWith(int ships) {
        BerthPlan x = new BerthPlan(6);
        for (int i = 0; i < ships; i++) {
            x.ship(1, 0, 1, 0, 1);
        }
        return x;
    }

    private static void firstAndLastShipTaken() {
        for (int ships = 1; ships <= 4; ships++) {
            BerthPlan x = quayWith(ships);
            dueFix(x, 0, 0, 3, true);
            CHECK.due("fixed ships", x.count(4), 1);
            dueFix(x, ships - 1, 1, 4, true);
            CHECK.due("fixed ships", x.count(4), ships == 1 ? 1 : 2);
            x.solve();
            CHECK.dueBerth("the last ship", x, ships - 1, 1, 4);
        }
    }

    private static void shipsJustOutsideRefused() {
        for (int ships = 0; ships <= 4; ships++) {
            BerthPlan x = quayWith(ships);
            dueFix(x, -1, 0, 0, false);
            dueFix(x, ships, 0, 0, false);
            dueFix(x, 4, 0, 0, false);
            for (int ship : Check.WILD) {
                dueFix(x, ship, 0, 0, false);
            }
            CHECK.due("fixed ships", x.count(4), 0);
        }
    }

    private static void firstAndLastHourTaken() {
        BerthPlan x = new BerthPlan(1);
        x.ship(1, 0, 24, 7, 1);
        for (int hour : new int[] {0, 15}) {
            dueFix(x, 0, 0, hour, true);
            x.solve();
            CHECK.dueBerth("fixed", x, 0, 0, hour);
        }
    }

    private static void hoursJustOutsideRefused() {
        BerthPlan x = new BerthPlan(1);
        x.ship(1, 0, 1, 7, 1);
        for (int hour : new int[] {-1, 16, 39, 40}) {
            dueFix(x, 0, 0, hour, false);
        }
        CHECK.due("fixed ships", x.count(4), 0);
    }

    private static void firstAndLastPlaceWithinTheQuay() {
        for (int places = 1; places <= 6; places++) {
            for (int length = 1; length <= places; length++) {
                BerthPlan x = new BerthPlan(places);
                x.ship(length, 0, 1, 0, 1);
                dueFix(x, 0, -1, 0, false);
                dueFix(x, 0, places - length + 1, 0, false);
                dueFix(x, 0, places - 1, 0, length == 1);
                dueFix(x, 0, places, 0, false);
                dueFix(x, 0, 0, 0, true);
                dueFix(x, 0, places - length, 0, true);
                x.solve();
                CHECK.dueBerth("length " + length + " of " + places, x, 0, places - length, 0);
            }
        }
    }

    private static void longerThanTheQuayRefused() {
        for (int places = 1; places < 6; places++) {
            BerthPlan x = new BerthPlan(places);
            x.ship(places + 1, 0, 1, 0, 1);
            x.ship(6, 0, 1, 0, 1);
            for (int place = -6; place <= places; place++) {
                dueFix(x, 0, place, 0, false);
                dueFix(x, 1, place, 0, false);
            }
            CHECK.due("fixed ships", x.count(4), 0);
        }
    }

    private static void wildPlacesAndHoursRefused() {
        BerthPlan x = new BerthPlan(6);
        x.ship(6, 0, 1, 0, 1);
        for (int number : Check.WILD) {
            dueFix(x, 0, number, 0, false);
            dueFix(x, 0, 0, number, false);
            dueFix(x, 0, number, number, false);
        }
        CHECK.due("fixed ships", x.count(4), 0);
    }

    /** Ship 0 takes the places 2 and 3 in the hours 5 .. 8. */
    private static BerthPlan quayWithAFixedOne(int length, int time) {
        BerthPlan x = new BerthPlan(6);
        x.ship(2, 0, 4, 0, 1);
        x.ship(length, 0, time, 0, 1);
        x.fix(0, 2, 5);
        return x;
    }

    private static void besideAFixedOneTaken() {
        int[][] beside = {{0, 5}, {4, 5}, {2, 2}, {2, 9}, {1, 2}, {3, 9}, {0, 2}, {4, 9}, {0, 8}, {4, 3}};
        for (int[] b : beside) {
            BerthPlan x = quayWithAFixedOne(2, 3);
            dueFix(x, 1, b[0], b[1], true);
            CHECK.due("fixed ships", x.count(4), 2);
            CHECK.due("solve", x.solve(), 1);
            CHECK.dueBerth("beside a fixed one", x, 1, b[0], b[1]);
        }
    }

    private static void acrossAFixedOneRefused() {
        int[][] across = {{2, 5}, {1, 5}, {3, 5}, {2, 3}, {2, 8}, {1, 3}, {3, 3}, {1, 8}, {3, 8}, {2, 6}};
        for (int[] a : across) {
            BerthPlan x = quayWithAFixedOne(2, 3);
            dueFix(x, 1, a[0], a[1], false);
            CHECK.due("fixed ships", x.count(4), 1);
        }
    }

    private static void aroundAndWithinAFixedOneRefused() {
        BerthPlan around = quayWithAFixedOne(6, 24);
        dueFix(around, 1, 0, 0, false);
        dueFix(around, 1, 0, 9, true);
        BerthPlan within = quayWithAFixedOne(1, 1);
        for (int place = 1; place <= 4; place++) {
            for (int hour = 4; hour <= 9; hour++) {
                boolean inside = (place == 2 || place == 3) && hour >= 5 && hour <= 8;
                dueFix(within, 1, place, hour, !inside);
            }
        }
    }

    private static void shipThatIsNotFixedIsNotInTheWay() {
        BerthPlan x = new BerthPlan(1);
        x.ship(1, 0, 4, 0, 100);
        x.ship(1, 0, 4, 0, 1);
        x.solve();
        CHECK.dueBerth("by the plan", x, 0, 0, 0);
        dueFix(x, 1, 0, 0, true);
        x.solve();
        CHECK.dueBerth("behind the fixed one", x, 0, 0, 4);
    }

    private static void freedShipIsNotInTheWay() {
        BerthPlan x = quayWithAFixedOne(2, 4);
        dueFix(x, 1, 2, 5, false);
        x.free(0);
        dueFix(x, 1, 2, 5, true);
        dueFix(x, 0, 2, 5, false);
    }

    /** The document's 'one that is fixed' is taken as another one: a ship leaves its own berth. */
    private static void fixedAnew() {
        BerthPlan x = quayWithAFixedOne(1, 1);
        dueFix(x, 0, 2, 5, true);
        dueFix(x, 0, 3, 6, true);
        CHECK.due("fixed ships", x.count(4), 1);
        dueFix(x, 1, 2, 5, true);
        dueFix(x, 1, 3, 6, false);
        x.solve();
        CHECK.dueBerth("fixed anew", x, 0, 3, 6);
        CHECK.dueBerth("fixed where the other was", x, 1, 2, 5);
    }

    private static void refusedAnewStaysWhereItWas() {
        BerthPlan x = quayWithAFixedOne(1, 1);
        x.fix(1, 0, 7);
        dueFix(x, 1, 2, 7, false);
        dueFix(x, 1, 6, 7, false);
        dueFix(x, 1, 0, 16, false);
        CHECK.due("fixed ships", x.count(4), 2);
        x.solve();
        CHECK.dueBerth("refused anew", x, 1, 0, 7);
    }

    private static void fixedWhateverItsNeeds() {
        BerthPlan x = new BerthPlan(1);
        x.ship(1, 100, 1, 15, 1);
        x.wants(0, 0, true);
        x.tide(39, 39);
        dueFix(x, 0, 0, 0, true);
        CHECK.due("solve", x.solve(), 1);
        CHECK.dueBerth("fixed whatever its needs", x, 0, 0, 0);
    }

    private static void allFixedAtOnce() {
        BerthPlan x = new BerthPlan(1);
        for (int ship = 0; ship < 4; ship++) {
            x.ship(1, 0, 5, 0, 1);
            dueFix(x, ship, 0, 5 * ship, true);
            CHECK.due("fixed ships", x.count(4), ship + 1);
        }
        CHECK.due("solve", x.solve(), 1);
        for (int ship = 0; ship < 4; ship++) {
            CHECK.dueBerth("all fixed", x, ship, 0, 5 * ship);
        }
    }

    private static void refusedFixChangesNothing() {
        int[][] refused = {{-1, 0, 0}, {4, 0, 0}, {0, -1, 0}, {0, 6, 0}, {0, 0, -1}, {0, 0, 16}, {2, 6, 4}};
        for (int[] r : refused) {
            Unchanged.due(CHECK, "fix(" + r[0] + ", " + r[1] + ", " + r[2] + ")",
                    x -> x.fix(r[0], r[1], r[2]), Quays.values());
        }
        Unchanged.due(CHECK, "fix of no ship", x -> x.fix(0, 0, 0), Quays.NEW, Quays.WITHOUT_SHIPS);
        Unchanged.due(CHECK, "fix of no ship", x -> x.fix(3, 0, 0), Quays.PLANNED, Quays.VOID);
        Unchanged.due(CHECK, "fix not within the quay", x -> x.fix(0, 3, 0), Quays.PLANNED, Quays.VOID);
        Unchanged.due(CHECK, "fix of one too long", x -> x.fix(3, 0, 0), Quays.STUCK);
        Unchanged.due(CHECK, "fix across a fixed one", x -> x.fix(0, 1, 4), Quays.PLANNED, Quays.VOID);
        Unchanged.due(CHECK, "fix of a fixed one across another one", x -> x.fix(1, 2, 7), Quays.FULL);
    }
}
