/**
 * Promise 4: a place has a kind of GEAR, or not any more: true; false if there is no such place or kind,
 * or it is so.
 */
public final class Promise04GearTest {
    private static final Check CHECK = new Check("Promise 4, gear");

    public static void main(String[] args) {
        firstAndLastPlaceTaken();
        placesJustOutsideRefused();
        firstAndLastKindTaken();
        kindsJustOutsideRefused();
        isSoRefused();
        isNotSoRefused();
        onlyThisPlaceAndKindChange();
        emptyAndFullPlace();
        refusedGearChangesNothing();
        CHECK.end();
    }

    private static void dueGear(BerthPlan x, int place, int kind, boolean is, boolean want) {
        CHECK.due("gear(" + place + ", " + kind + ", " + is + ") of " + x.count(0) + " places",
                x.gear(place, kind, is), want);
    }

    private static void firstAndLastPlaceTaken() {
        for (int places = 1; places <= 6; places++) {
            BerthPlan x = new BerthPlan(places);
            dueGear(x, 0, 2, true, true);
            CHECK.due("gear of the first place", x.count(20), 4);
            dueGear(x, places - 1, 3, true, true);
            CHECK.due("gear of the last place", x.count(20 + places - 1), places == 1 ? 12 : 8);
        }
    }

    private static void placesJustOutsideRefused() {
        for (int places = 1; places <= 6; places++) {
            BerthPlan x = new BerthPlan(places);
            for (boolean is : new boolean[] {true, false}) {
                dueGear(x, -1, 0, is, false);
                dueGear(x, places, 0, is, false);
                for (int place : Check.WILD) {
                    dueGear(x, place, 0, is, false);
                }
            }
            for (int place = 0; place < places; place++) {
                CHECK.due("gear of place " + place + " after refused calls", x.count(20 + place), 0);
            }
        }
    }

    private static void firstAndLastKindTaken() {
        BerthPlan x = new BerthPlan(2);
        dueGear(x, 0, 0, true, true);
        CHECK.due("bits of kind 0", x.count(20), 1);
        dueGear(x, 1, 7, true, true);
        CHECK.due("bits of kind 7", x.count(21), 128);
        dueGear(x, 0, 0, false, true);
        CHECK.due("bits without kind 0", x.count(20), 0);
        dueGear(x, 1, 7, false, true);
        CHECK.due("bits without kind 7", x.count(21), 0);
    }

    /** 32 and 39 are the kinds 0 and 7 for a shift that wraps around. */
    private static void kindsJustOutsideRefused() {
        BerthPlan x = new BerthPlan(2);
        x.gear(1, 0, true);
        x.gear(1, 7, true);
        int[] kinds = {-1, 8, 31, 32, 39, -32, -25};
        for (int kind : kinds) {
            dueGear(x, 0, kind, true, false);
            dueGear(x, 1, kind, false, false);
        }
        for (int kind : Check.WILD) {
            dueGear(x, 0, kind, true, false);
            dueGear(x, 1, kind, false, false);
        }
        CHECK.due("gear of place 0 after refused calls", x.count(20), 0);
        CHECK.due("gear of place 1 after refused calls", x.count(21), 129);
    }

    private static void isSoRefused() {
        BerthPlan x = new BerthPlan(1);
        for (int kind = 0; kind < 8; kind++) {
            dueGear(x, 0, kind, true, true);
            dueGear(x, 0, kind, true, false);
        }
        CHECK.due("all kinds", x.count(20), 255);
    }

    private static void isNotSoRefused() {
        BerthPlan x = new BerthPlan(1);
        for (int kind = 0; kind < 8; kind++) {
            dueGear(x, 0, kind, false, false);
        }
        for (int kind = 0; kind < 8; kind++) {
            x.gear(0, kind, true);
            dueGear(x, 0, kind, false, true);
            dueGear(x, 0, kind, false, false);
        }
        CHECK.due("no kind", x.count(20), 0);
    }

    private static void onlyThisPlaceAndKindChange() {
        BerthPlan x = new BerthPlan(3);
        x.gear(0, 4, true);
        x.gear(1, 1, true);
        x.gear(2, 4, true);
        dueGear(x, 1, 4, true, true);
        CHECK.due("the place ahead", x.count(20), 16);
        CHECK.due("the place", x.count(21), 18);
        CHECK.due("the place behind", x.count(22), 16);
        dueGear(x, 1, 1, false, true);
        dueGear(x, 0, 4, false, true);
        CHECK.due("the place ahead", x.count(20), 0);
        CHECK.due("the place", x.count(21), 16);
        CHECK.due("the place behind", x.count(22), 16);
    }

    private static void emptyAndFullPlace() {
        BerthPlan x = new BerthPlan(6);
        int bits = 0;
        for (int kind = 7; kind >= 0; kind--) {
            dueGear(x, 5, kind, true, true);
            bits += 1 << kind;
            CHECK.due("gear up to kind " + kind, x.count(25), bits);
        }
        for (int kind = 0; kind < 8; kind++) {
            dueGear(x, 5, kind, false, true);
            bits -= 1 << kind;
            CHECK.due("gear without kind " + kind, x.count(25), bits);
        }
    }

    private static void refusedGearChangesNothing() {
        Unchanged.due(CHECK, "gear at no place", x -> x.gear(-1, 0, true), Quays.values());
        Unchanged.due(CHECK, "gear at no place", x -> x.gear(6, 0, true), Quays.values());
        Unchanged.due(CHECK, "gear of no kind", x -> x.gear(0, -1, true), Quays.values());
        Unchanged.due(CHECK, "gear of no kind", x -> x.gear(0, 8, true), Quays.values());
        Unchanged.due(CHECK, "gear of no kind", x -> x.gear(5, 32, false), Quays.values());
        Unchanged.due(CHECK, "gear it has not", x -> x.gear(0, 2, false), Quays.values());
        Unchanged.due(CHECK, "gear it has", x -> x.gear(1, 2, true), Quays.PLANNED, Quays.VOID, Quays.STUCK);
        Unchanged.due(CHECK, "gear it has", x -> x.gear(5, 7, true), Quays.FULL);
    }
}
