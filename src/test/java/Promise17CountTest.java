/**
 * Promise 17: what 0: places, 1: ships, 2: spans of tide, 3: 1 if there is a plan, else 0, 4: ships that are
 * fixed; from 10 on the depth of place what - 10, from 20 on the gear of place what - 20 as bits. NONE for
 * another what or place.
 */
public final class Promise17CountTest {
    private static final Check CHECK = new Check("Promise 17, count");

    public static void main(String[] args) {
        ofANewObject();
        ofAFullObject();
        plan();
        fixed();
        firstAndLastPlaceByDepth();
        firstAndLastPlaceByGear();
        whatsBetweenAreNone();
        wildWhatsAreNone();
        askingChangesNothing();
        CHECK.end();
    }

    private static void dueCount(String run, BerthPlan x, int what, int want) {
        CHECK.due(run + ": count(" + what + ")", x.count(what), want);
    }

    private static void dueCounts(String run, BerthPlan x, int... want) {
        for (int what = 0; what < want.length; what++) {
            dueCount(run, x, what, want[what]);
        }
    }

    private static void ofANewObject() {
        dueCounts("new", new BerthPlan(1), 1, 0, 0, 0, 0, -1);
        dueCounts("new", new BerthPlan(6), 6, 0, 0, 0, 0, -1);
    }

    private static void ofAFullObject() {
        BerthPlan x = Quays.FULL.made();
        dueCounts("full", x, 6, 4, 8, 1, 2, -1);
        dueCount("full", x, 24, 0);
        dueCount("full", x, 25, 255);
        dueCounts("three ships", Quays.PLANNED.made(), 4, 3, 2, 1, 1, -1);
    }

    private static void plan() {
        dueCount("new", Quays.NEW.made(), 3, 0);
        dueCount("of no ship", Quays.WITHOUT_SHIPS.made(), 3, 1);
        dueCount("solved", Quays.PLANNED.made(), 3, 1);
        dueCount("void", Quays.VOID.made(), 3, 0);
        dueCount("there is none", Quays.STUCK.made(), 3, 0);
    }

    private static void fixed() {
        BerthPlan x = new BerthPlan(4);
        for (int ship = 0; ship < 4; ship++) {
            x.ship(1, 0, 1, 0, 1);
            dueCount("one more ship", x, 4, ship);
            x.fix(ship, ship, 0);
            dueCount("one more fixed", x, 4, ship + 1);
        }
        x.fix(3, 3, 1);
        dueCount("one fixed anew", x, 4, 4);
        for (int ship = 0; ship < 4; ship++) {
            x.free(ship);
            dueCount("one more free", x, 4, 3 - ship);
        }
    }

    private static void firstAndLastPlaceByDepth() {
        for (int places = 1; places <= 6; places++) {
            BerthPlan x = new BerthPlan(places);
            for (int place = 0; place < places; place++) {
                x.depth(place, place, 50 + place);
            }
            String quay = places + " places";
            dueCount(quay, x, 9, -1);
            for (int place = 0; place < places; place++) {
                dueCount(quay, x, 10 + place, 50 + place);
            }
            dueCount(quay, x, 10 + places, -1);
        }
        BerthPlan x = new BerthPlan(2);
        x.depth(0, 0, 0);
        x.depth(1, 1, 100);
        dueCount("the least depth", x, 10, 0);
        dueCount("the greatest depth", x, 11, 100);
    }

    private static void firstAndLastPlaceByGear() {
        for (int places = 1; places <= 6; places++) {
            BerthPlan x = new BerthPlan(places);
            for (int place = 0; place < places; place++) {
                x.gear(place, 7 - place, true);
            }
            String quay = places + " places";
            dueCount(quay, x, 19, -1);
            for (int place = 0; place < places; place++) {
                dueCount(quay, x, 20 + place, 128 >> place);
            }
            dueCount(quay, x, 20 + places, -1);
        }
    }

    private static void whatsBetweenAreNone() {
        for (int places = 1; places <= 6; places++) {
            BerthPlan x = new BerthPlan(places);
            String quay = places + " places";
            dueCount(quay, x, -1, -1);
            for (int what = 5; what < 10; what++) {
                dueCount(quay, x, what, -1);
            }
            for (int what = 10 + places; what < 20; what++) {
                dueCount(quay, x, what, -1);
            }
            for (int what = 20 + places; what < 40; what++) {
                dueCount(quay, x, what, -1);
            }
        }
    }

    /** Some of these are small again when 10 or 20 is taken from them. */
    private static void wildWhatsAreNone() {
        BerthPlan x = Quays.FULL.made();
        for (int what : Check.WILD) {
            dueCount("full", x, what, -1);
        }
        for (int less = 0; less < 30; less++) {
            dueCount("full", x, Integer.MIN_VALUE + less, -1);
            dueCount("full", x, Integer.MAX_VALUE - less, -1);
        }
    }

    private static void askingChangesNothing() {
        for (int what : new int[] {-1, 0, 3, 5, 10, 16, 20, 26}) {
            Unchanged.due(CHECK, "count(" + what + ")", x -> x.count(what), Quays.values());
        }
    }
}
