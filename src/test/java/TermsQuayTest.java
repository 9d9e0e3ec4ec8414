/**
 * Terms: THE QUAY has PLACES 0 .. L - 1 (L 1 .. 6), each of a DEPTH (0 .. 100; 20 at first) and with GEAR
 * kinds 0 .. 7 (bits; none at first). HOURS 0 .. 39; a ship begins at one of 0 .. 15.
 */
public final class TermsQuayTest {
    private static final Check CHECK = new Check("Terms, the quay");

    public static void main(String[] args) {
        eachCallKnowsTheSamePlaces();
        depthAtFirst();
        gearAtFirst();
        hoursOfTheTide();
        hoursOfAPlan();
        beginsOfAShip();
        fiveHundredAndTwelveCalls();
        CHECK.end();
    }

    private static void eachCallKnowsTheSamePlaces() {
        for (int places = 1; places <= 6; places++) {
            BerthPlan x = new BerthPlan(places);
            x.ship(1, 0, 1, 0, 1);
            for (int place = -2; place <= 8; place++) {
                boolean is = place >= 0 && place < places;
                String of = "place " + place + " of " + places;
                CHECK.due("depth at " + of, x.depth(place, place, 33), is);
                CHECK.due("gear at " + of, x.gear(place, 5, true), is);
                CHECK.due("fix at " + of, x.fix(0, place, 0), is);
                CHECK.due("solve with a ship at " + of, x.solve(), 1);
                CHECK.due("lies at " + of, x.lies(place, 0), is ? 0 : BerthPlan.NONE);
                CHECK.due("depth of " + of, place < 0 ? -1 : x.count(10 + place), is ? 33 : BerthPlan.NONE);
                CHECK.due("gear of " + of, place < 0 ? -1 : x.count(20 + place), is ? 32 : BerthPlan.NONE);
                x.free(0);
            }
        }
    }

    private static void depthAtFirst() {
        BerthPlan x = new BerthPlan(6);
        x.ship(6, 20, 1, 0, 1);
        x.ship(1, 21, 1, 0, 1);
        CHECK.due("need 20 along the quay", x.why(0), 0);
        CHECK.due("need 21 anywhere", x.why(1), 2);
    }

    private static void gearAtFirst() {
        for (int kind = 0; kind < 8; kind++) {
            BerthPlan x = new BerthPlan(6);
            x.ship(6, 0, 1, 0, 1);
            CHECK.due("no gear wanted", x.why(0), 0);
            x.wants(0, kind, true);
            CHECK.due("kind " + kind + " along the quay", x.why(0), 3);
        }
    }

    private static void hoursOfTheTide() {
        for (int hour = -2; hour <= 42; hour++) {
            CHECK.due("tide at hour " + hour, new BerthPlan(1).tide(hour, hour), hour >= 0 && hour <= 39);
        }
    }

    private static void hoursOfAPlan() {
        BerthPlan x = new BerthPlan(1);
        x.ship(1, 0, 24, 0, 1);
        x.fix(0, 0, 15);
        x.solve();
        for (int hour = -2; hour <= 42; hour++) {
            CHECK.due("lies in hour " + hour, x.lies(0, hour), hour >= 15 && hour <= 38 ? 0 : BerthPlan.NONE);
        }
    }

    private static void beginsOfAShip() {
        for (int hour = -2; hour <= 42; hour++) {
            boolean is = hour >= 0 && hour <= 15;
            BerthPlan x = new BerthPlan(1);
            x.ship(1, 0, 1, 0, 1);
            CHECK.due("fix at hour " + hour, x.fix(0, 0, hour), is);
            x.free(0);
            x.tide(hour, hour);
            // An hour that is none is no span, and leaves any hour.
            boolean told = x.count(2) == 1;
            CHECK.due("bound by a tide at hour " + hour, x.bound(), is ? hour : told ? BerthPlan.NONE : 0);
            CHECK.due("solve by a tide at hour " + hour, x.solve(), is || !told ? 1 : 0);
        }
    }

    /** An object is used for at most 512 calls: the last of them is answered as the first one is. */
    private static void fiveHundredAndTwelveCalls() {
        BerthPlan x = new BerthPlan(1);
        x.ship(1, 0, 5, 0, 1);
        x.solve();
        for (int call = 3; call <= 512; call++) {
            CHECK.due("call " + call + ", change", x.change(0, call % 2), 1);
        }
    }
}
