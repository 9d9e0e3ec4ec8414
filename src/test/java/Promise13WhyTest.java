/**
 * Promise 13: why a ship can't be berthed alone: 0 it can (or is fixed); 1 it is longer than the quay; 2
 * there is no row of places deep enough; 3 none of these has its gear; 4 no hour is by the tide.
 * IndexOutOfBoundsException if there is no such ship.
 */
public final class Promise13WhyTest {
    private static final Check CHECK = new Check("Promise 13, why");

    public static void main(String[] args) {
        itCan();
        itIsFixed();
        longerThanTheQuay();
        noRowDeepEnough();
        deepPlacesApart();
        noneOfTheseHasItsGear();
        gearAtRowsNotDeepEnough();
        noHourByTheTide();
        firstOfSeveral();
        othersDoNotCount();
        shipsJustOutsideRefused();
        withoutShipsRefused();
        askingChangesNothing();
        CHECK.end();
    }

    private static void dueWhy(String run, BerthPlan x, int ship, int want) {
        CHECK.due(run + ": why(" + ship + ")", x.why(ship), want);
    }

    private static void itCan() {
        BerthPlan x = new BerthPlan(1);
        x.ship(1, 20, 24, 15, 1);
        dueWhy("at the last hour, just deep enough", x, 0, 0);
        x.solve();
        dueWhy("with a plan", x, 0, 0);
    }

    /** A fixed one is 0 whichever reason it would have; when it is free it has the reason again. */
    private static void itIsFixed() {
        BerthPlan x = new BerthPlan(1);
        x.ship(1, 100, 1, 15, 1);
        x.wants(0, 0, true);
        x.tide(39, 39);
        dueWhy("not fixed", x, 0, 2);
        x.fix(0, 0, 0);
        dueWhy("fixed", x, 0, 0);
        x.free(0);
        dueWhy("free", x, 0, 2);
    }

    private static void longerThanTheQuay() {
        for (int places = 1; places < 6; places++) {
            BerthPlan x = new BerthPlan(places);
            x.ship(places, 0, 1, 0, 1);
            x.ship(places + 1, 0, 1, 0, 1);
            x.ship(6, 0, 1, 0, 1);
            dueWhy("as long as the quay", x, 0, 0);
            dueWhy("longer than the quay", x, 1, 1);
            dueWhy("of length 6", x, 2, 1);
        }
        BerthPlan six = new BerthPlan(6);
        six.ship(6, 0, 1, 0, 1);
        dueWhy("of length 6 by six places", six, 0, 0);
    }

    private static void noRowDeepEnough() {
        BerthPlan x = new BerthPlan(3);
        x.ship(3, 20, 1, 0, 1);
        dueWhy("just deep enough", x, 0, 0);
        for (int place = 0; place < 3; place++) {
            x.depth(place, place, 19);
            dueWhy("not deep enough at place " + place, x, 0, 2);
            x.depth(place, place, 20);
        }
        dueWhy("deep enough again", x, 0, 0);
    }

    private static void deepPlacesApart() {
        BerthPlan x = new BerthPlan(5);
        x.ship(2, 30, 1, 0, 1);
        x.depth(0, 0, 30);
        x.depth(2, 2, 30);
        x.depth(4, 4, 30);
        dueWhy("deep places apart", x, 0, 2);
        x.depth(3, 3, 30);
        dueWhy("a row of deep places", x, 0, 0);
    }

    private static void noneOfTheseHasItsGear() {
        BerthPlan x = new BerthPlan(3);
        x.ship(2, 0, 1, 0, 1);
        x.wants(0, 3, true);
        dueWhy("its kind nowhere", x, 0, 3);
        x.gear(2, 3, true);
        dueWhy("its kind at the last place", x, 0, 0);
        x.wants(0, 4, true);
        x.gear(0, 4, true);
        dueWhy("its kinds too far apart", x, 0, 3);
        x.gear(1, 4, true);
        dueWhy("its kinds at two places of a row", x, 0, 0);
    }

    private static void gearAtRowsNotDeepEnough() {
        BerthPlan x = new BerthPlan(4);
        x.ship(2, 30, 1, 0, 1);
        x.depth(0, 1, 30);
        x.wants(0, 0, true);
        x.gear(2, 0, true);
        dueWhy("gear beside the deep row", x, 0, 3);
        x.depth(2, 2, 29);
        dueWhy("gear at a place not deep enough", x, 0, 3);
        x.depth(2, 2, 30);
        dueWhy("gear at a place deep enough", x, 0, 0);
    }

    private static void noHourByTheTide() {
        BerthPlan x = new BerthPlan(1);
        x.ship(1, 0, 1, 6, 1);
        dueWhy("any hour", x, 0, 0);
        x.tide(0, 5);
        dueWhy("the tide ends an hour ahead of its arrival", x, 0, 4);
        x.tide(16, 39);
        dueWhy("the tide begins an hour behind the last begin", x, 0, 4);
        x.tide(15, 15);
        dueWhy("the tide at the last begin", x, 0, 0);
        BerthPlan y = new BerthPlan(1);
        y.ship(1, 0, 1, 6, 1);
        y.tide(0, 6);
        dueWhy("the tide ends at its arrival", y, 0, 0);
    }

    /** All four reasons at once; each one that is taken away leaves the next. */
    private static void firstOfSeveral() {
        BerthPlan x = new BerthPlan(3);
        x.tide(0, 9);
        x.ship(4, 100, 1, 10, 1);
        x.ship(3, 100, 1, 10, 1);
        x.wants(0, 0, true);
        x.wants(1, 0, true);
        dueWhy("longer ahead of all else", x, 0, 1);
        dueWhy("depth ahead of gear and tide", x, 1, 2);
        x.depth(0, 2, 100);
        dueWhy("longer still", x, 0, 1);
        dueWhy("gear ahead of the tide", x, 1, 3);
        x.gear(1, 0, true);
        dueWhy("the tide", x, 1, 4);
        x.tide(10, 10);
        dueWhy("it can", x, 1, 0);
        dueWhy("longer still", x, 0, 1);
    }

    private static void othersDoNotCount() {
        BerthPlan x = new BerthPlan(1);
        x.ship(1, 0, 24, 0, 1);
        x.ship(1, 0, 24, 0, 1);
        CHECK.due("solve", x.solve(), 0);
        dueWhy("no plan with another one", x, 0, 0);
        x.fix(0, 0, 0);
        CHECK.due("solve", x.solve(), 0);
        dueWhy("no plan beside a fixed one", x, 1, 0);
    }

    private static void shipsJustOutsideRefused() {
        for (Quays quay : Quays.values()) {
            BerthPlan x = quay.made();
            int ships = x.count(1);
            for (int ship : new int[] {-1, ships, 4}) {
                CHECK.dueThrows("why(" + ship + ") of " + ships + " ships", Check.INDEX, () -> x.why(ship));
            }
            for (int ship : Check.WILD) {
                CHECK.dueThrows("why(" + ship + ") of " + ships + " ships", Check.INDEX, () -> x.why(ship));
            }
            if (ships > 0) {
                int want = quay == Quays.STUCK ? 1 : quay == Quays.CHANGED ? 4 : 0;
                CHECK.due("why of the last ship, quay " + quay, x.why(ships - 1), want);
            }
        }
    }

    private static void withoutShipsRefused() {
        CHECK.dueThrows("why(0) of a new object", Check.INDEX, () -> Quays.NEW.made().why(0));
        CHECK.dueThrows("why(0) without ships", Check.INDEX, () -> Quays.WITHOUT_SHIPS.made().why(0));
    }

    private static void askingChangesNothing() {
        for (int ship : new int[] {-1, 0, 2, 4}) {
            Unchanged.due(CHECK, "why(" + ship + ")", x -> x.why(ship), Quays.values());
        }
    }
}
