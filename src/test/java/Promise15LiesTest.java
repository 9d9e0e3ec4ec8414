/**
 * Promise 15: which ship lies at a place in an hour by the plan; NONE for none, or if there is no such
 * place or hour. IllegalStateException without a plan.
 */
public final class Promise15LiesTest {
    private static final Check CHECK = new Check("Promise 15, lies");

    public static void main(String[] args) {
        edgesOfABerth();
        wholeQuayAndItsNeighbours();
        onlyPlaceOfAQuay();
        lastHours();
        oneBehindAnother();
        withoutShips();
        placesJustOutside();
        hoursJustOutside();
        withoutAPlanRefused();
        withoutAPlanRefusedForNoSuchPlaceOrHour();
        askingChangesNothing();
        CHECK.end();
    }

    private static void dueLies(BerthPlan x, int place, int hour, int want) {
        CHECK.due("lies(" + place + ", " + hour + ")", x.lies(place, hour), want);
    }

    /** A ship at the places 1 and 2 in the hours 5 .. 7, and each place and hour round about. */
    private static void edgesOfABerth() {
        BerthPlan x = new BerthPlan(4);
        x.ship(2, 0, 3, 1, 1);
        x.fix(0, 1, 5);
        x.solve();
        for (int place = 0; place < 4; place++) {
            for (int hour = 0; hour < 40; hour++) {
                boolean inside = (place == 1 || place == 2) && hour >= 5 && hour <= 7;
                dueLies(x, place, hour, inside ? 0 : BerthPlan.NONE);
            }
        }
    }

    private static void wholeQuayAndItsNeighbours() {
        BerthPlan x = new BerthPlan(6);
        x.ship(6, 0, 24, 0, 1);
        x.solve();
        for (int place = -1; place <= 6; place++) {
            boolean inside = place >= 0 && place <= 5;
            dueLies(x, place, -1, BerthPlan.NONE);
            dueLies(x, place, 0, inside ? 0 : BerthPlan.NONE);
            dueLies(x, place, 23, inside ? 0 : BerthPlan.NONE);
            dueLies(x, place, 24, BerthPlan.NONE);
        }
    }

    private static void onlyPlaceOfAQuay() {
        BerthPlan x = new BerthPlan(1);
        x.ship(1, 0, 1, 0, 1);
        x.solve();
        dueLies(x, 0, 0, 0);
        dueLies(x, 0, 1, BerthPlan.NONE);
        dueLies(x, 1, 0, BerthPlan.NONE);
        dueLies(x, -1, 0, BerthPlan.NONE);
    }

    private static void lastHours() {
        BerthPlan x = new BerthPlan(1);
        x.ship(1, 0, 24, 15, 1);
        x.solve();
        dueLies(x, 0, 14, BerthPlan.NONE);
        dueLies(x, 0, 15, 0);
        dueLies(x, 0, 38, 0);
        dueLies(x, 0, 39, BerthPlan.NONE);
        dueLies(x, 0, 40, BerthPlan.NONE);
    }

    private static void oneBehindAnother() {
        BerthPlan x = new BerthPlan(1);
        for (int ship = 0; ship < 4; ship++) {
            x.ship(1, 0, 5, 0, 1);
        }
        x.solve();
        for (int hour = 0; hour < 20; hour++) {
            dueLies(x, 0, hour, hour / 5);
        }
        dueLies(x, 0, 20, BerthPlan.NONE);
    }

    private static void withoutShips() {
        BerthPlan x = Quays.WITHOUT_SHIPS.made();
        dueLies(x, 0, 0, BerthPlan.NONE);
        dueLies(x, 3, 39, BerthPlan.NONE);
        dueLies(x, 4, 40, BerthPlan.NONE);
    }

    private static void placesJustOutside() {
        for (int places = 1; places <= 6; places++) {
            BerthPlan x = new BerthPlan(places);
            x.ship(places, 0, 24, 0, 1);
            x.solve();
            dueLies(x, 0, 0, 0);
            dueLies(x, places - 1, 0, 0);
            dueLies(x, -1, 0, BerthPlan.NONE);
            dueLies(x, places, 0, BerthPlan.NONE);
            for (int place : Check.WILD) {
                dueLies(x, place, 0, BerthPlan.NONE);
            }
        }
    }

    private static void hoursJustOutside() {
        BerthPlan x = new BerthPlan(2);
        x.ship(2, 0, 24, 0, 1);
        x.solve();
        dueLies(x, 0, -1, BerthPlan.NONE);
        dueLies(x, 0, 40, BerthPlan.NONE);
        for (int hour : Check.WILD) {
            dueLies(x, 0, hour, BerthPlan.NONE);
            dueLies(x, hour, hour, BerthPlan.NONE);
        }
    }

    private static void withoutAPlanRefused() {
        CHECK.dueThrows("lies of a new object", Check.STATE, () -> Quays.NEW.made().lies(0, 0));
        for (Quays quay : Quays.WITHOUT_A_PLAN) {
            BerthPlan x = quay.made();
            CHECK.dueThrows("lies(0, 0), quay " + quay, Check.STATE, () -> x.lies(0, 0));
            CHECK.dueThrows("lies(0, 39), quay " + quay, Check.STATE, () -> x.lies(0, 39));
        }
        BerthPlan solved = Quays.UNSOLVED.made();
        solved.solve();
        dueLies(solved, 0, 0, 0);
    }

    private static void withoutAPlanRefusedForNoSuchPlaceOrHour() {
        for (Quays quay : Quays.WITHOUT_A_PLAN) {
            BerthPlan x = quay.made();
            CHECK.dueThrows("lies at no place, quay " + quay, Check.STATE, () -> x.lies(-1, 0));
            CHECK.dueThrows("lies at no place, quay " + quay, Check.STATE, () -> x.lies(4, 0));
            CHECK.dueThrows("lies in no hour, quay " + quay, Check.STATE, () -> x.lies(0, -1));
            CHECK.dueThrows("lies in no hour, quay " + quay, Check.STATE, () -> x.lies(0, 40));
        }
    }

    private static void askingChangesNothing() {
        int[][] asked = {{0, 0}, {1, 8}, {-1, 0}, {6, 0}, {0, -1}, {0, 40}};
        for (int[] a : asked) {
            Unchanged.due(CHECK, "lies(" + a[0] + ", " + a[1] + ")", x -> x.lies(a[0], a[1]), Quays.values());
        }
    }
}
