/** Promise 1: a quay of so many places (1 .. 6, held to that). */
public final class Promise01NewObjectTest {
    private static final Check CHECK = new Check("Promise 1, a new object");

    public static void main(String[] args) {
        none();
        placesAsTold();
        heldToOne();
        heldToSix();
        quayHeldToOneHasOnePlace();
        quayHeldToSixHasSixPlaces();
        nothingIsToldYet();
        objectsShareNothing();
        CHECK.end();
    }

    private static void none() {
        CHECK.due("NONE", BerthPlan.NONE, -1);
    }

    private static void placesAsTold() {
        for (int places = 1; places <= 6; places++) {
            CHECK.due("places of BerthPlan(" + places + ")", new BerthPlan(places).count(0), places);
        }
    }

    private static void heldToOne() {
        for (int places : new int[] {0, -1, -6, Integer.MIN_VALUE + 1, Integer.MIN_VALUE}) {
            CHECK.due("places of BerthPlan(" + places + ")", new BerthPlan(places).count(0), 1);
        }
    }

    private static void heldToSix() {
        for (int places : new int[] {7, 8, 100, Integer.MAX_VALUE - 1, Integer.MAX_VALUE}) {
            CHECK.due("places of BerthPlan(" + places + ")", new BerthPlan(places).count(0), 6);
        }
    }

    private static void quayHeldToOneHasOnePlace() {
        BerthPlan x = new BerthPlan(0);
        CHECK.due("depth of place 0", x.depth(0, 0, 30), true);
        CHECK.due("depth of place 1", x.depth(1, 1, 30), false);
        x.ship(1, 0, 1, 0, 1);
        x.ship(2, 0, 1, 0, 1);
        CHECK.due("why of a ship of length 1", x.why(0), 0);
        CHECK.due("why of a ship of length 2", x.why(1), 1);
    }

    private static void quayHeldToSixHasSixPlaces() {
        BerthPlan x = new BerthPlan(7);
        CHECK.due("depth of place 5", x.depth(5, 5, 30), true);
        CHECK.due("depth of place 6", x.depth(6, 6, 30), false);
        x.ship(6, 0, 1, 0, 1);
        CHECK.due("why of a ship of length 6", x.why(0), 0);
        CHECK.due("fix at place 0", x.fix(0, 0, 0), true);
        CHECK.due("fix at place 1", x.fix(0, 1, 0), false);
    }

    private static void nothingIsToldYet() {
        for (int places = 1; places <= 6; places++) {
            BerthPlan x = new BerthPlan(places);
            String quay = "new BerthPlan(" + places + "): ";
            CHECK.due(quay + "ships", x.count(1), 0);
            CHECK.due(quay + "spans of tide", x.count(2), 0);
            CHECK.due(quay + "plan", x.count(3), 0);
            CHECK.due(quay + "fixed ships", x.count(4), 0);
            for (int place = 0; place < places; place++) {
                CHECK.due(quay + "depth of place " + place, x.count(10 + place), 20);
                CHECK.due(quay + "gear of place " + place, x.count(20 + place), 0);
            }
            CHECK.due(quay + "bound", x.bound(), 0);
            CHECK.dueThrows(quay + "lateness", Check.STATE, x::lateness);
            CHECK.dueThrows(quay + "lies", Check.STATE, () -> x.lies(0, 0));
            CHECK.dueThrows(quay + "why", Check.INDEX, () -> x.why(0));
            CHECK.dueThrows(quay + "at", Check.INDEX, () -> x.at(0, 0));
            CHECK.dueThrows(quay + "change", Check.INDEX, () -> x.change(0, 0));
        }
    }

    private static void objectsShareNothing() {
        BerthPlan x = new BerthPlan(2);
        BerthPlan y = new BerthPlan(2);
        x.ship(2, 0, 1, 0, 1);
        x.depth(0, 1, 50);
        x.gear(0, 3, true);
        x.tide(3, 3);
        x.solve();
        int[] whats = {1, 2, 3, 20};
        for (int what : whats) {
            CHECK.due("count(" + what + ") of another object", y.count(what), 0);
        }
        CHECK.due("depth of another object", y.count(10), 20);
        y.ship(1, 0, 1, 1, 1);
        y.solve();
        CHECK.dueBerth("the first object", x, 0, 0, 3);
        CHECK.dueBerth("the second object", y, 0, 0, 1);
    }
}
