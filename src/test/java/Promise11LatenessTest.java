/** Promise 11: the plan's LATENESS. IllegalStateException without one. */
public final class Promise11LatenessTest {
    private static final Check CHECK = new Check("Promise 11, lateness");

    public static void main(String[] args) {
        ofNoShip();
        sumByWeight();
        noneIsLate();
        greatest();
        least();
        oneAheadAndOneLate();
        afterAChange();
        withoutAPlanRefused();
        askingChangesNothing();
        CHECK.end();
    }

    private static void ofNoShip() {
        CHECK.due("lateness of no ship", Quays.WITHOUT_SHIPS.made().lateness(), 0);
    }

    private static void sumByWeight() {
        BerthPlan x = new BerthPlan(1);
        x.ship(1, 0, 5, 0, 100);
        x.ship(1, 0, 5, 0, 7);
        x.ship(1, 0, 5, 1, 3);
        x.solve();
        CHECK.due("lateness", x.lateness(), 7 * 5 + 3 * 9);
    }

    private static void noneIsLate() {
        BerthPlan x = new BerthPlan(4);
        for (int ship = 0; ship < 4; ship++) {
            x.ship(1, 0, 24, 15, 100);
        }
        x.solve();
        CHECK.due("lateness", x.lateness(), 0);
    }

    private static BerthPlan fourFixed(int arrives, int hour) {
        BerthPlan x = new BerthPlan(4);
        for (int ship = 0; ship < 4; ship++) {
            x.ship(1, 0, 24, arrives, 100);
            x.fix(ship, ship, hour);
        }
        CHECK.due("solve", x.solve(), 1);
        return x;
    }

    private static void greatest() {
        CHECK.due("four ships 15 hours late", fourFixed(0, 15).lateness(), 6000);
        BerthPlan x = new BerthPlan(4);
        for (int ship = 0; ship < 4; ship++) {
            x.ship(1, 0, 24, 0, 100);
        }
        x.tide(15, 15);
        CHECK.due("solve", x.solve(), 1);
        CHECK.due("four ships 15 hours late by the tide", x.lateness(), 6000);
    }

    private static void least() {
        CHECK.due("four ships 15 hours ahead", fourFixed(15, 0).lateness(), -6000);
    }

    private static void oneAheadAndOneLate() {
        BerthPlan x = new BerthPlan(2);
        x.ship(1, 0, 1, 10, 3);
        x.ship(1, 0, 1, 2, 5);
        x.fix(0, 0, 4);
        x.tide(5, 5);
        x.solve();
        CHECK.due("lateness", x.lateness(), 3 * -6 + 5 * 3);
        CHECK.due("it is -3, not NONE", x.lateness(), -3);
    }

    private static void afterAChange() {
        BerthPlan x = new BerthPlan(1);
        x.ship(1, 0, 5, 0, 2);
        x.ship(1, 0, 5, 0, 3);
        x.solve();
        CHECK.due("lateness", x.lateness(), 2 * 5);
        x.change(1, 6);
        CHECK.due("lateness after the change", x.lateness(), 0);
        x.change(1, 4);
        CHECK.due("lateness after another change", x.lateness(), 3);
    }

    private static void withoutAPlanRefused() {
        CHECK.dueThrows("lateness of a new object", Check.STATE, Quays.NEW.made()::lateness);
        for (Quays quay : Quays.WITHOUT_A_PLAN) {
            CHECK.dueThrows("lateness, quay " + quay, Check.STATE, quay.made()::lateness);
        }
    }

    private static void askingChangesNothing() {
        Unchanged.due(CHECK, "lateness()", BerthPlan::lateness, Quays.values());
    }
}
