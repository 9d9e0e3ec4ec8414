/**
 * Promise 2: one more ship: its number. IllegalArgumentException if its numbers can't be;
 * IllegalStateException if there are 4.
 */
public final class Promise02ShipTest {
    private static final Check CHECK = new Check("Promise 2, ship");
    private static final String[] NAMES = {"length", "need", "time", "arrives", "weight"};
    private static final int[] LEAST = {1, 0, 1, 0, 1};
    private static final int[] MOST = {6, 100, 24, 15, 100};

    public static void main(String[] args) {
        numbersInTurn();
        fourTakenTheFifthRefused();
        leastAndGreatestNumbersTaken();
        numbersJustOutsideRefused();
        wildNumbersRefused();
        shipThatTheQuayCantTakeIsTold();
        lengthAtItsEdges();
        needAtItsEdges();
        timeAtItsEdges();
        arrivalAtItsEdges();
        weightAtItsEdges();
        wantsNothingAndIsNotFixed();
        numbersThatCantBeAreToldFirst();
        refusedShipChangesNothing();
        CHECK.end();
    }

    private static int tell(BerthPlan x, int[] numbers) {
        return x.ship(numbers[0], numbers[1], numbers[2], numbers[3], numbers[4]);
    }

    private static int[] oneOther(int which, int number) {
        int[] numbers = {2, 5, 3, 4, 6};
        numbers[which] = number;
        return numbers;
    }

    private static void numbersInTurn() {
        BerthPlan x = new BerthPlan(3);
        for (int number = 0; number < 4; number++) {
            CHECK.due("ship", x.ship(1, 0, 1, 0, 1), number);
            CHECK.due("ships", x.count(1), number + 1);
        }
    }

    private static void fourTakenTheFifthRefused() {
        BerthPlan x = new BerthPlan(6);
        for (int i = 0; i < 3; i++) {
            x.ship(1, 0, 1, 0, 1);
        }
        CHECK.due("the fourth ship", x.ship(1, 0, 1, 0, 1), 3);
        CHECK.dueThrows("the fifth ship", Check.STATE, () -> x.ship(1, 0, 1, 0, 1));
        CHECK.dueThrows("the fifth ship again", Check.STATE, () -> x.ship(6, 100, 24, 15, 100));
        CHECK.due("ships", x.count(1), 4);
    }

    private static void leastAndGreatestNumbersTaken() {
        for (int which = 0; which < NAMES.length; which++) {
            BerthPlan x = new BerthPlan(6);
            CHECK.due(NAMES[which] + " " + LEAST[which], tell(x, oneOther(which, LEAST[which])), 0);
            CHECK.due(NAMES[which] + " " + MOST[which], tell(x, oneOther(which, MOST[which])), 1);
        }
        BerthPlan x = new BerthPlan(6);
        CHECK.due("all numbers the least", tell(x, LEAST), 0);
        CHECK.due("all numbers the greatest", tell(x, MOST), 1);
    }

    private static void numbersJustOutsideRefused() {
        for (int which = 0; which < NAMES.length; which++) {
            dueRefused(which, LEAST[which] - 1);
            dueRefused(which, MOST[which] + 1);
        }
    }

    private static void wildNumbersRefused() {
        for (int which = 0; which < NAMES.length; which++) {
            for (int number : Check.WILD) {
                dueRefused(which, number);
            }
        }
    }

    private static void dueRefused(int which, int number) {
        BerthPlan x = new BerthPlan(6);
        CHECK.dueThrows(NAMES[which] + " " + number, Check.ARGUMENT, () -> tell(x, oneOther(which, number)));
        CHECK.due("ships after " + NAMES[which] + " " + number, x.count(1), 0);
    }

    /** A ship's length goes to 6 whatever the quay's, its need to 100, its arrival to 15. */
    private static void shipThatTheQuayCantTakeIsTold() {
        BerthPlan x = new BerthPlan(1);
        x.tide(0, 0);
        CHECK.due("longer than the quay", x.ship(6, 0, 1, 0, 1), 0);
        CHECK.due("deeper than the quay", x.ship(1, 100, 1, 0, 1), 1);
        CHECK.due("behind the tide", x.ship(1, 0, 1, 15, 1), 2);
        CHECK.due("solve", x.solve(), 0);
    }

    private static void lengthAtItsEdges() {
        BerthPlan x = new BerthPlan(6);
        x.ship(1, 0, 1, 0, 1);
        x.fix(0, 0, 0);
        x.ship(6, 0, 1, 1, 1);
        x.solve();
        CHECK.due("length 1 at place 0", x.lies(0, 0), 0);
        CHECK.due("length 1 at place 1", x.lies(1, 0), BerthPlan.NONE);
        CHECK.due("length 6 at place 0", x.lies(0, 1), 1);
        CHECK.due("length 6 at place 5", x.lies(5, 1), 1);
    }

    private static void needAtItsEdges() {
        BerthPlan x = new BerthPlan(1);
        x.ship(1, 0, 1, 0, 1);
        x.ship(1, 100, 1, 0, 1);
        x.depth(0, 0, 0);
        CHECK.due("need 0 by depth 0", x.why(0), 0);
        x.depth(0, 0, 99);
        CHECK.due("need 100 by depth 99", x.why(1), 2);
        x.depth(0, 0, 100);
        CHECK.due("need 100 by depth 100", x.why(1), 0);
    }

    private static void timeAtItsEdges() {
        BerthPlan x = new BerthPlan(2);
        x.ship(1, 0, 1, 0, 1);
        x.ship(1, 0, 24, 0, 1);
        x.solve();
        CHECK.due("time 1 in its first hour", x.lies(0, 0), 0);
        CHECK.due("time 1 in the hour behind", x.lies(0, 1), BerthPlan.NONE);
        CHECK.due("time 24 in its first hour", x.lies(1, 0), 1);
        CHECK.due("time 24 in its last hour", x.lies(1, 23), 1);
        CHECK.due("time 24 in the hour behind", x.lies(1, 24), BerthPlan.NONE);
    }

    private static void arrivalAtItsEdges() {
        BerthPlan x = new BerthPlan(1);
        x.ship(1, 0, 1, 0, 1);
        x.ship(1, 0, 1, 15, 1);
        CHECK.due("solve", x.solve(), 1);
        CHECK.dueBerth("arrives at 0", x, 0, 0, 0);
        CHECK.dueBerth("arrives at 15", x, 1, 0, 15);
    }

    private static void weightAtItsEdges() {
        BerthPlan x = new BerthPlan(2);
        x.ship(1, 0, 1, 0, 1);
        x.fix(0, 0, 3);
        x.solve();
        CHECK.due("lateness of weight 1", x.lateness(), 3);
        x.ship(1, 0, 1, 0, 100);
        x.fix(1, 1, 3);
        x.solve();
        CHECK.due("lateness of weights 1 and 100", x.lateness(), 303);
    }

    private static void wantsNothingAndIsNotFixed() {
        BerthPlan x = new BerthPlan(1);
        for (int ship = 0; ship < 4; ship++) {
            x.ship(1, 0, 1, 0, 1);
            for (int kind = 0; kind < 8; kind++) {
                CHECK.due("a new ship wants no kind " + kind + " any more", x.wants(ship, kind, false), false);
            }
            CHECK.due("free of a new ship", x.free(ship), false);
            CHECK.due("fixed ships", x.count(4), 0);
        }
    }

    private static void numbersThatCantBeAreToldFirst() {
        for (int which = 0; which < NAMES.length; which++) {
            int[] below = oneOther(which, LEAST[which] - 1);
            int[] above = oneOther(which, MOST[which] + 1);
            BerthPlan x = Quays.FULL.made();
            CHECK.dueThrows("a fifth ship, " + NAMES[which] + " too small", Check.ARGUMENT, () -> tell(x, below));
            CHECK.dueThrows("a fifth ship, " + NAMES[which] + " too large", Check.ARGUMENT, () -> tell(x, above));
        }
    }

    private static void refusedShipChangesNothing() {
        Unchanged.due(CHECK, "a fifth ship", x -> x.ship(1, 0, 1, 0, 1), Quays.FULL, Quays.STUCK);
        for (int which = 0; which < NAMES.length; which++) {
            int[] below = oneOther(which, LEAST[which] - 1);
            int[] above = oneOther(which, MOST[which] + 1);
            Unchanged.due(CHECK, "ship, " + NAMES[which] + " too small", x -> tell(x, below), Quays.values());
            Unchanged.due(CHECK, "ship, " + NAMES[which] + " too large", x -> tell(x, above), Quays.values());
        }
    }
}
