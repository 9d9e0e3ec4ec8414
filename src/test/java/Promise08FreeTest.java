/** Promise 8: a ship is FIXED no more: true; false if there is none such, or it was not. */
public final class Promise08FreeTest {
    private static final Check CHECK = new Check("Promise 8, free");

    public static void main(String[] args) {
        withoutShipsRefused();
        firstAndLastShipTaken();
        shipsJustOutsideRefused();
        notFixedRefused();
        twiceRefused();
        onlyThisShipIsFreed();
        freedShipIsBerthedAsOthers();
        freedShipMayBeFixedAgain();
        refusedFreeChangesNothing();
        CHECK.end();
    }

    private static void dueFree(BerthPlan x, int ship, boolean want) {
        CHECK.due("free(" + ship + ") of " + x.count(1) + " ships", x.free(ship), want);
    }

    private static BerthPlan quayWithFixed(int ships) {
        BerthPlan x = new BerthPlan(6);
        for (int ship = 0; ship < ships; ship++) {
            x.ship(1, 0, 1, 0, 1);
            x.fix(ship, ship, 5);
        }
        return x;
    }

    private static void withoutShipsRefused() {
        BerthPlan x = new BerthPlan(6);
        dueFree(x, 0, false);
        dueFree(x, -1, false);
    }

    private static void firstAndLastShipTaken() {
        for (int ships = 2; ships <= 4; ships++) {
            BerthPlan x = quayWithFixed(ships);
            dueFree(x, 0, true);
            CHECK.due("fixed ships", x.count(4), ships - 1);
            dueFree(x, ships - 1, true);
            CHECK.due("fixed ships", x.count(4), ships - 2);
        }
    }

    private static void shipsJustOutsideRefused() {
        for (int ships = 0; ships <= 4; ships++) {
            BerthPlan x = quayWithFixed(ships);
            dueFree(x, -1, false);
            dueFree(x, ships, false);
            dueFree(x, 4, false);
            for (int ship : Check.WILD) {
                dueFree(x, ship, false);
            }
            CHECK.due("fixed ships", x.count(4), ships);
        }
    }

    private static void notFixedRefused() {
        BerthPlan x = new BerthPlan(1);
        x.ship(1, 0, 1, 0, 1);
        dueFree(x, 0, false);
        x.solve();
        dueFree(x, 0, false);
        CHECK.due("plan after a refused call", x.count(3), 1);
        x.fix(0, 0, 0);
        dueFree(x, 0, true);
    }

    private static void twiceRefused() {
        BerthPlan x = quayWithFixed(1);
        dueFree(x, 0, true);
        dueFree(x, 0, false);
        CHECK.due("fixed ships", x.count(4), 0);
    }

    private static void onlyThisShipIsFreed() {
        BerthPlan x = quayWithFixed(3);
        dueFree(x, 1, true);
        x.solve();
        CHECK.dueBerth("the ship ahead", x, 0, 0, 5);
        CHECK.dueBerth("the freed ship", x, 1, 0, 0);
        CHECK.dueBerth("the ship behind", x, 2, 2, 5);
        CHECK.due("fixed ships", x.count(4), 2);
    }

    /** Its arrival, need, gear and tide count again. */
    private static void freedShipIsBerthedAsOthers() {
        BerthPlan x = new BerthPlan(3);
        x.ship(1, 30, 1, 6, 1);
        x.depth(1, 2, 30);
        x.wants(0, 7, true);
        x.gear(2, 7, true);
        x.tide(8, 9);
        x.fix(0, 0, 0);
        x.solve();
        CHECK.dueBerth("fixed", x, 0, 0, 0);
        dueFree(x, 0, true);
        x.solve();
        CHECK.dueBerth("freed", x, 0, 2, 8);
        x.gear(2, 7, false);
        CHECK.due("why of the freed one", x.why(0), 3);
        CHECK.due("solve without its gear", x.solve(), 0);
    }

    private static void freedShipMayBeFixedAgain() {
        BerthPlan x = quayWithFixed(1);
        dueFree(x, 0, true);
        CHECK.due("fix again", x.fix(0, 3, 9), true);
        dueFree(x, 0, true);
    }

    private static void refusedFreeChangesNothing() {
        for (int ship : new int[] {-1, 4, 0, Integer.MIN_VALUE, Integer.MAX_VALUE}) {
            Unchanged.due(CHECK, "free(" + ship + ")", x -> x.free(ship), Quays.values());
        }
        Unchanged.due(CHECK, "free of no ship", x -> x.free(3), Quays.PLANNED, Quays.VOID);
    }
}
