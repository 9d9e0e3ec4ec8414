/**
 * Terms: SHIPS 0, 1, .. (4 at most): LENGTH (1 .. 6), NEED (depth, 0 .. 100), TIME (1 .. 24 hours), the hour
 * it ARRIVES (0 .. 15), WEIGHT (1 .. 100); GEAR kinds that it wants (none at first).
 */
public final class TermsShipsTest {
    private static final Check CHECK = new Check("Terms, ships");

    public static void main(String[] args) {
        eachCallKnowsTheSameShips();
        everyLength();
        everyNeed();
        everyTime();
        everyArrival();
        everyWeight();
        noGearWantedAtFirst();
        CHECK.end();
    }

    private static void eachCallKnowsTheSameShips() {
        for (int ships = 0; ships <= 4; ships++) {
            for (int ship = -2; ship <= 6; ship++) {
                BerthPlan x = new BerthPlan(6);
                for (int i = 0; i < ships; i++) {
                    x.ship(1, 0, 1, 0, 1);
                }
                x.solve();
                dueKnown(x, ship, ship >= 0 && ship < ships, "ship " + ship + " of " + ships);
            }
        }
    }

    private static void dueKnown(BerthPlan x, int ship, boolean is, String of) {
        String none = "throws.IndexOutOfBoundsException";
        CHECK.dueText("at of " + of, Check.outcome(() -> x.at(ship, 1)), is ? "0" : none);
        CHECK.dueText("why of " + of, Check.outcome(() -> x.why(ship)), is ? "0" : none);
        CHECK.dueText("change of " + of, Check.outcome(() -> x.change(ship, 0)), is ? "0" : none);
        CHECK.due("wants of " + of, x.wants(ship, 0, true), is);
        CHECK.due("fix of " + of, x.fix(ship, 5, 0), is);
        CHECK.due("free of " + of, x.free(ship), is);
    }

    private static BerthPlan told(int length, int need, int time, int arrives, int weight) {
        BerthPlan x = new BerthPlan(6);
        Check.outcome(() -> x.ship(length, need, time, arrives, weight));
        return x;
    }

    private static void everyLength() {
        for (int length = -2; length <= 8; length++) {
            BerthPlan x = told(length, 0, 1, 0, 1);
            boolean is = length >= 1 && length <= 6;
            CHECK.due("ships of length " + length, x.count(1), is ? 1 : 0);
            x.solve();
            for (int place = 0; is && place < 6; place++) {
                CHECK.due("length " + length + " at place " + place, x.lies(place, 0), place < length ? 0 : -1);
            }
        }
    }

    private static void everyNeed() {
        for (int need = -2; need <= 102; need++) {
            BerthPlan x = told(1, need, 1, 0, 1);
            boolean is = need >= 0 && need <= 100;
            CHECK.due("ships of need " + need, x.count(1), is ? 1 : 0);
            if (is) {
                x.depth(0, 5, need);
                CHECK.due("need " + need + " as deep", x.why(0), 0);
                CHECK.due("depth one less can be told", x.depth(0, 5, need - 1), need > 0);
                CHECK.due("need " + need + " one less deep", x.why(0), need > 0 ? 2 : 0);
            }
        }
    }

    private static void everyTime() {
        for (int time = -2; time <= 26; time++) {
            BerthPlan x = told(1, 0, time, 0, 1);
            boolean is = time >= 1 && time <= 24;
            CHECK.due("ships of time " + time, x.count(1), is ? 1 : 0);
            if (is) {
                x.solve();
                CHECK.due("time " + time + ", its last hour", x.lies(0, time - 1), 0);
                CHECK.due("time " + time + ", the hour behind", x.lies(0, time), BerthPlan.NONE);
            }
        }
    }

    private static void everyArrival() {
        for (int arrives = -2; arrives <= 18; arrives++) {
            BerthPlan x = told(1, 0, 1, arrives, 1);
            boolean is = arrives >= 0 && arrives <= 15;
            CHECK.due("ships that arrive at " + arrives, x.count(1), is ? 1 : 0);
            if (is) {
                x.solve();
                CHECK.dueBerth("arrives at " + arrives, x, 0, 0, arrives);
            }
        }
    }

    private static void everyWeight() {
        for (int weight = -2; weight <= 102; weight++) {
            BerthPlan x = told(1, 0, 1, 0, weight);
            boolean is = weight >= 1 && weight <= 100;
            CHECK.due("ships of weight " + weight, x.count(1), is ? 1 : 0);
            if (is) {
                x.fix(0, 0, 15);
                x.solve();
                CHECK.due("lateness of weight " + weight, x.lateness(), 15 * weight);
            }
        }
    }

    private static void noGearWantedAtFirst() {
        for (int ship = 0; ship < 4; ship++) {
            BerthPlan x = new BerthPlan(1);
            for (int i = 0; i <= ship; i++) {
                x.ship(1, 0, 1, 0, 1);
            }
            CHECK.due("why of ship " + ship + " by a quay without gear", x.why(ship), 0);
            for (int kind = 0; kind < 8; kind++) {
                CHECK.due("ship " + ship + " wants kind " + kind + " now", x.wants(ship, kind, true), true);
            }
        }
    }
}
