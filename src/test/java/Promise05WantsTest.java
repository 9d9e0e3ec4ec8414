/**
 * Promise 5: a ship wants a kind of GEAR, or not any more: true; false if there is no such ship or kind,
 * or it is so.
 */
public final class Promise05WantsTest {
    private static final Check CHECK = new Check("Promise 5, wants");

    public static void main(String[] args) {
        withoutShipsRefused();
        firstAndLastShipTaken();
        shipsJustOutsideRefused();
        firstAndLastKindTaken();
        kindsJustOutsideRefused();
        isSoRefused();
        isNotSoRefused();
        onlyThisShipAndKindChange();
        fixedShipMayWant();
        refusedWantsChangesNothing();
        CHECK.end();
    }

    private static void dueWants(BerthPlan x, int ship, int kind, boolean is, boolean want) {
        CHECK.due("wants(" + ship + ", " + kind + ", " + is + ") of " + x.count(1) + " ships",
                x.wants(ship, kind, is), want);
    }

    private static BerthPlan quayWith(int ships) {
        BerthPlan x = new BerthPlan(1);
        for (int i = 0; i < ships; i++) {
            x.ship(1, 0, 1, 0, 1);
        }
        return x;
    }

    private static void withoutShipsRefused() {
        BerthPlan x = quayWith(0);
        dueWants(x, 0, 0, true, false);
        dueWants(x, 0, 0, false, false);
        x.ship(1, 0, 1, 0, 1);
        CHECK.due("a ship told later wants nothing", x.why(0), 0);
        dueWants(x, 0, 0, true, true);
    }

    private static void firstAndLastShipTaken() {
        for (int ships = 1; ships <= 4; ships++) {
            BerthPlan x = quayWith(ships);
            dueWants(x, 0, 1, true, true);
            CHECK.due("why of the first ship", x.why(0), 3);
            dueWants(x, ships - 1, 2, true, true);
            CHECK.due("why of the last ship", x.why(ships - 1), 3);
        }
    }

    private static void shipsJustOutsideRefused() {
        for (int ships = 0; ships <= 4; ships++) {
            BerthPlan x = quayWith(ships);
            for (boolean is : new boolean[] {true, false}) {
                dueWants(x, -1, 0, is, false);
                dueWants(x, ships, 0, is, false);
                dueWants(x, 4, 0, is, false);
                for (int ship : Check.WILD) {
                    dueWants(x, ship, 0, is, false);
                }
            }
            for (int ship = 0; ship < ships; ship++) {
                CHECK.due("why of ship " + ship + " after refused calls", x.why(ship), 0);
            }
        }
    }

    private static void firstAndLastKindTaken() {
        for (int kind : new int[] {0, 7}) {
            BerthPlan x = quayWith(1);
            dueWants(x, 0, kind, true, true);
            CHECK.due("why without kind " + kind, x.why(0), 3);
            x.gear(0, kind, true);
            CHECK.due("why with kind " + kind, x.why(0), 0);
            x.gear(0, kind, false);
            dueWants(x, 0, kind, false, true);
            CHECK.due("why if kind " + kind + " is not wanted any more", x.why(0), 0);
        }
    }

    /** 32 and 39 are the kinds 0 and 7 for a shift that wraps around. */
    private static void kindsJustOutsideRefused() {
        BerthPlan x = quayWith(1);
        int[] kinds = {-1, 8, 31, 32, 39, -32, -25};
        for (int kind : kinds) {
            dueWants(x, 0, kind, true, false);
            dueWants(x, 0, kind, false, false);
        }
        for (int kind : Check.WILD) {
            dueWants(x, 0, kind, true, false);
            dueWants(x, 0, kind, false, false);
        }
        CHECK.due("why after refused calls", x.why(0), 0);
        x.wants(0, 0, true);
        dueWants(x, 0, 32, false, false);
        CHECK.due("kind 0 is wanted still", x.why(0), 3);
    }

    private static void isSoRefused() {
        BerthPlan x = quayWith(1);
        for (int kind = 0; kind < 8; kind++) {
            dueWants(x, 0, kind, true, true);
            dueWants(x, 0, kind, true, false);
        }
        for (int kind = 0; kind < 8; kind++) {
            CHECK.due("why with some kinds", x.why(0), 3);
            x.gear(0, kind, true);
        }
        CHECK.due("why with all kinds", x.why(0), 0);
    }

    private static void isNotSoRefused() {
        BerthPlan x = quayWith(1);
        for (int kind = 0; kind < 8; kind++) {
            dueWants(x, 0, kind, false, false);
        }
        for (int kind = 0; kind < 8; kind++) {
            x.wants(0, kind, true);
            dueWants(x, 0, kind, false, true);
            dueWants(x, 0, kind, false, false);
        }
        CHECK.due("why if nothing is wanted any more", x.why(0), 0);
    }

    private static void onlyThisShipAndKindChange() {
        BerthPlan x = quayWith(3);
        dueWants(x, 1, 4, true, true);
        CHECK.due("why of the ship ahead", x.why(0), 0);
        CHECK.due("why of the ship", x.why(1), 3);
        CHECK.due("why of the ship behind", x.why(2), 0);
        x.gear(0, 3, true);
        x.gear(0, 5, true);
        CHECK.due("why with the kinds beside it", x.why(1), 3);
        x.gear(0, 4, true);
        CHECK.due("why with the kind", x.why(1), 0);
    }

    private static void fixedShipMayWant() {
        BerthPlan x = quayWith(1);
        x.fix(0, 0, 0);
        dueWants(x, 0, 3, true, true);
        CHECK.due("why while it is fixed", x.why(0), 0);
        x.free(0);
        CHECK.due("why when it is free", x.why(0), 3);
    }

    private static void refusedWantsChangesNothing() {
        Unchanged.due(CHECK, "wants of no ship", x -> x.wants(-1, 0, true), Quays.values());
        Unchanged.due(CHECK, "wants of no ship", x -> x.wants(4, 0, true), Quays.values());
        Unchanged.due(CHECK, "wants of no ship", x -> x.wants(0, 0, true), Quays.NEW, Quays.WITHOUT_SHIPS);
        Unchanged.due(CHECK, "wants of no ship", x -> x.wants(3, 0, true), Quays.PLANNED, Quays.VOID);
        Unchanged.due(CHECK, "wants of no kind", x -> x.wants(0, -1, true), Quays.values());
        Unchanged.due(CHECK, "wants of no kind", x -> x.wants(0, 8, true), Quays.values());
        Unchanged.due(CHECK, "wants of no kind", x -> x.wants(2, 32, false), Quays.values());
        Unchanged.due(CHECK, "wants it has not", x -> x.wants(1, 2, false), Quays.values());
        Unchanged.due(CHECK, "wants it has", x -> x.wants(0, 5, true), Quays.PLANNED, Quays.VOID, Quays.STUCK);
        Unchanged.due(CHECK, "wants it has", x -> x.wants(2, 7, true), Quays.FULL);
    }
}
