/** Each promise of the document: ordinary inputs, the edges that it names, and wrong inputs. */
public final class PromisesTest {
    private static final int LEAST = Integer.MIN_VALUE;
    private static final int MOST = Integer.MAX_VALUE;
    private static final Class<IllegalArgumentException> ARGUMENT = IllegalArgumentException.class;
    private static final Class<IllegalStateException> STATE = IllegalStateException.class;
    private static final Class<IndexOutOfBoundsException> INDEX = IndexOutOfBoundsException.class;
    private static final Class<ArithmeticException> ARITHMETIC = ArithmeticException.class;

    private static final Check CHECK = new Check();

    public static void main(String[] args) {
        newObject();
        ship();
        shipOutOfRange();
        depth();
        gear();
        wants();
        tide();
        fix();
        fixMeetsFixed();
        free();
        solve();
        solveTies();
        solveByGearDepthAndTide();
        solveRoundFixed();
        at();
        lateness();
        bound();
        why();
        change();
        changeRefused();
        lies();
        share();
        count();
        whatIsToldVoidsThePlan();
        whatIsRefusedChangesNothing();
        CHECK.end();
    }

    private static void due(String call, long got, long want) {
        CHECK.due(call, got, want);
    }

    private static void due(String call, boolean got, boolean want) {
        CHECK.due(call, got, want);
    }

    private static void dueBerth(String run, BerthPlan x, int ship, int place, int hour) {
        due(run + ": place of ship " + ship, x.at(ship, 0), place);
        due(run + ": hour of ship " + ship, x.at(ship, 1), hour);
    }

    // Promise 1

    private static void newObject() {
        due("NONE", BerthPlan.NONE, -1);
        int[][] told = {{1, 1}, {2, 2}, {5, 5}, {6, 6}, {0, 1}, {-1, 1}, {LEAST, 1}, {7, 6}, {MOST, 6}};
        for (int[] t : told) {
            due("places of BerthPlan(" + t[0] + ")", new BerthPlan(t[0]).count(0), t[1]);
        }
        BerthPlan x = new BerthPlan(6);
        for (int what = 1; what <= 4; what++) {
            due("new count(" + what + ")", x.count(what), 0);
        }
        for (int place = 0; place < 6; place++) {
            due("new depth of place " + place, x.count(10 + place), 20);
            due("new gear of place " + place, x.count(20 + place), 0);
        }
        CHECK.dueThrows("new lateness()", STATE, x::lateness);
    }

    // Promise 2

    private static void ship() {
        BerthPlan x = new BerthPlan(1);
        due("ship of the least numbers", x.ship(1, 0, 1, 0, 1), 0);
        due("ship of the greatest numbers", x.ship(6, 100, 24, 15, 100), 1);
        due("ship", x.ship(1, 1, 1, 1, 1), 2);
        due("ship", x.ship(1, 1, 1, 1, 1), 3);
        CHECK.dueThrows("a fifth ship", STATE, () -> x.ship(1, 1, 1, 1, 1));
        CHECK.dueThrows("a fifth ship that can't be", ARGUMENT, () -> x.ship(0, 1, 1, 1, 1));
        due("ships", x.count(1), 4);
    }

    private static void shipOutOfRange() {
        int[][] ranges = {{1, 6}, {0, 100}, {1, 24}, {0, 15}, {1, 100}};
        for (int i = 0; i < ranges.length; i++) {
            for (int number : new int[] {ranges[i][0] - 1, ranges[i][1] + 1, LEAST, MOST}) {
                int[] n = {1, 1, 1, 1, 1};
                n[i] = number;
                BerthPlan x = new BerthPlan(6);
                CHECK.dueThrows("ship with number " + i + " of " + number, ARGUMENT,
                        () -> x.ship(n[0], n[1], n[2], n[3], n[4]));
                due("ships after a refused one", x.count(1), 0);
            }
        }
    }

    // Promise 3

    private static void depth() {
        BerthPlan x = new BerthPlan(4);
        due("depth(1, 2, 100)", x.depth(1, 2, 100), true);
        due("depth(3, 3, 0)", x.depth(3, 3, 0), true);
        int[] want = {20, 100, 100, 0};
        for (int place = 0; place < 4; place++) {
            due("depth of place " + place, x.count(10 + place), want[place]);
        }
        due("depth as it is", x.depth(0, 0, 20), true);
        due("depth of all", x.depth(0, 3, 7), true);
        int[][] wrong = {{-1, 2, 5}, {0, 4, 5}, {4, 4, 5}, {2, 1, 5}, {LEAST, MOST, 5}, {MOST, MOST, 5},
            {0, 1, -1}, {0, 1, 101}, {0, 1, LEAST}, {0, 1, MOST}};
        for (int[] w : wrong) {
            due("depth(" + w[0] + ", " + w[1] + ", " + w[2] + ")", x.depth(w[0], w[1], w[2]), false);
        }
        for (int place = 0; place < 4; place++) {
            due("depth after refused ones", x.count(10 + place), 7);
        }
    }

    // Promise 4

    private static void gear() {
        BerthPlan x = new BerthPlan(3);
        due("gear(0, 0, true)", x.gear(0, 0, true), true);
        due("gear(2, 7, true)", x.gear(2, 7, true), true);
        due("gear(2, 1, true)", x.gear(2, 1, true), true);
        due("gear it has", x.gear(2, 1, true), false);
        due("gear it has not", x.gear(1, 1, false), false);
        due("gear bits", x.count(22), 130);
        due("gear(2, 7, false)", x.gear(2, 7, false), true);
        due("gear(2, 7, false) again", x.gear(2, 7, false), false);
        for (int number : new int[] {-1, LEAST, MOST}) {
            due("gear of place " + number, x.gear(number, 0, true), false);
            due("gear of kind " + number, x.gear(1, number, true), false);
            due("gear of kind " + number + " no more", x.gear(1, number, false), false);
        }
        due("gear(3, 0, true)", x.gear(3, 0, true), false);
        due("gear(1, 8, true)", x.gear(1, 8, true), false);
        due("gear(1, 32, true)", x.gear(1, 32, true), false);
        due("gear bits", x.count(20), 1);
        due("gear bits", x.count(21), 0);
        due("gear bits", x.count(22), 2);
    }

    // Promise 5

    private static void wants() {
        BerthPlan x = new BerthPlan(2);
        due("wants without ships", x.wants(0, 0, true), false);
        x.ship(1, 0, 1, 0, 1);
        due("wants it has not", x.wants(0, 7, false), false);
        due("wants(0, 7, true)", x.wants(0, 7, true), true);
        due("wants(0, 7, true) again", x.wants(0, 7, true), false);
        due("why of what it wants", x.why(0), 3);
        due("wants(0, 7, false)", x.wants(0, 7, false), true);
        due("wants(0, 7, false) again", x.wants(0, 7, false), false);
        due("why of what it wants no more", x.why(0), 0);
        for (int number : new int[] {-1, LEAST, MOST}) {
            due("wants of ship " + number, x.wants(number, 0, true), false);
            due("wants of kind " + number, x.wants(0, number, true), false);
        }
        due("wants(1, 0, true)", x.wants(1, 0, true), false);
        due("wants(0, 8, true)", x.wants(0, 8, true), false);
        due("wants(0, 32, true)", x.wants(0, 32, true), false);
        due("why after refused ones", x.why(0), 0);
    }

    // Promise 6

    private static void tide() {
        BerthPlan x = new BerthPlan(1);
        int[][] wrong = {{-1, 3}, {0, 40}, {40, 40}, {5, 4}, {LEAST, 0}, {0, MOST}, {MOST, MOST}, {MOST, LEAST}};
        for (int[] w : wrong) {
            due("tide(" + w[0] + ", " + w[1] + ")", x.tide(w[0], w[1]), false);
        }
        due("spans after refused ones", x.count(2), 0);
        x.ship(1, 0, 1, 0, 1);
        due("bound without tide", x.bound(), 0);
        due("tide(16, 39)", x.tide(16, 39), true);
        due("why with a tide too late", x.why(0), 4);
        due("tide(15, 39)", x.tide(15, 39), true);
        due("bound by the first hour of a span", x.bound(), 15);
        due("tide(5, 5)", x.tide(5, 5), true);
        due("bound by a span of one hour", x.bound(), 5);
        for (int i = 3; i < 8; i++) {
            due("tide(0, 0)", x.tide(0, 0), true);
        }
        due("a ninth span", x.tide(1, 1), false);
        due("spans", x.count(2), 8);
        lastHourOfASpan();
    }

    private static void lastHourOfASpan() {
        BerthPlan x = new BerthPlan(1);
        x.tide(2, 4);
        x.tide(9, 9);
        x.ship(1, 0, 1, 4, 1);
        due("bound at the last hour of a span", x.bound(), 0);
        x.ship(1, 0, 1, 5, 1);
        due("bound behind a span", x.bound(), 4);
    }

    // Promise 7

    private static void fix() {
        BerthPlan x = new BerthPlan(4);
        due("fix without ships", x.fix(0, 0, 0), false);
        x.ship(3, 100, 24, 15, 100);
        int[][] wrong = {{-1, 0, 0}, {1, 0, 0}, {0, -1, 0}, {0, 2, 0}, {0, 4, 0}, {0, 0, -1}, {0, 0, 16},
            {LEAST, 0, 0}, {MOST, 0, 0}, {0, LEAST, 0}, {0, MOST, 0}, {0, 0, LEAST}, {0, 0, MOST}};
        for (int[] w : wrong) {
            due("fix(" + w[0] + ", " + w[1] + ", " + w[2] + ")", x.fix(w[0], w[1], w[2]), false);
        }
        due("fixed after refused ones", x.count(4), 0);
        due("fix ahead of arrival, not deep enough", x.fix(0, 1, 0), true);
        due("fixed", x.count(4), 1);
        due("fix anew across its own berth", x.fix(0, 0, 15), true);
        due("fixed once", x.count(4), 1);
        due("solve", x.solve(), 1);
        dueBerth("fixed anew", x, 0, 0, 15);
        BerthPlan small = new BerthPlan(2);
        small.ship(3, 0, 1, 0, 1);
        due("fix of a ship longer than the quay", small.fix(0, 0, 0), false);
    }

    private static void fixMeetsFixed() {
        BerthPlan x = new BerthPlan(6);
        x.ship(2, 0, 4, 0, 1);
        x.ship(2, 0, 3, 0, 1);
        x.fix(0, 2, 5);
        int[][] meets = {{2, 5}, {1, 5}, {3, 5}, {2, 3}, {2, 8}, {1, 3}, {3, 8}};
        for (int[] m : meets) {
            due("fix(1, " + m[0] + ", " + m[1] + ")", x.fix(1, m[0], m[1]), false);
        }
        due("fixed after refused ones", x.count(4), 1);
        int[][] beside = {{0, 5}, {4, 5}, {2, 2}, {2, 9}};
        for (int[] b : beside) {
            due("fix(1, " + b[0] + ", " + b[1] + ")", x.fix(1, b[0], b[1]), true);
            due("both fixed", x.count(4), 2);
        }
        x.free(0);
        due("fix where another was fixed once", x.fix(1, 2, 5), true);
    }

    // Promise 8

    private static void free() {
        BerthPlan x = new BerthPlan(2);
        due("free without ships", x.free(0), false);
        x.ship(1, 0, 2, 1, 5);
        due("free of one not fixed", x.free(0), false);
        x.fix(0, 1, 7);
        for (int number : new int[] {-1, 1, LEAST, MOST}) {
            due("free(" + number + ")", x.free(number), false);
        }
        due("still fixed", x.count(4), 1);
        due("free(0)", x.free(0), true);
        due("fixed no more", x.count(4), 0);
        due("free(0) again", x.free(0), false);
        x.solve();
        dueBerth("freed", x, 0, 0, 1);
    }

    // Promise 9

    private static void solve() {
        BerthPlan x = new BerthPlan(6);
        due("solve without ships", x.solve(), 1);
        x.ship(6, 0, 24, 0, 1);
        due("solve", x.solve(), 1);
        due("solve again", x.solve(), 1);
        x.ship(1, 0, 24, 0, 1);
        due("solve with no hour left", x.solve(), 0);
        due("no plan", x.count(3), 0);
        due("bound of ships that meet", x.bound(), 0);
        leastLatenessNotFirstCome();
    }

    private static void leastLatenessNotFirstCome() {
        BerthPlan x = new BerthPlan(1);
        x.ship(1, 0, 10, 0, 1);
        x.ship(1, 0, 2, 3, 100);
        due("solve", x.solve(), 1);
        // It waits for the heavier one, though it was there ahead of it.
        dueBerth("heavier first", x, 0, 0, 5);
        dueBerth("heavier first", x, 1, 0, 3);
        due("lateness", x.lateness(), 5);
        BerthPlan y = new BerthPlan(1);
        y.ship(1, 0, 15, 0, 1);
        y.ship(1, 0, 1, 0, 1);
        y.ship(1, 0, 15, 0, 100);
        due("a third ship would begin at 16", y.solve(), 0);
        y = new BerthPlan(1);
        y.ship(1, 0, 14, 0, 1);
        y.ship(1, 0, 1, 0, 1);
        y.ship(1, 0, 24, 0, 1);
        due("the last one begins at 15", y.solve(), 1);
        dueBerth("the last one begins at 15", y, 2, 0, 15);
    }

    private static void solveTies() {
        BerthPlan x = new BerthPlan(1);
        x.ship(1, 0, 3, 0, 2);
        x.ship(1, 0, 3, 0, 2);
        x.solve();
        dueBerth("like ships", x, 0, 0, 0);
        dueBerth("like ships", x, 1, 0, 3);
        BerthPlan y = new BerthPlan(3);
        y.ship(1, 0, 3, 0, 2);
        y.ship(2, 0, 3, 0, 2);
        y.solve();
        dueBerth("lesser place for the first", y, 0, 0, 0);
        dueBerth("lesser place for the first", y, 1, 1, 0);
        hourAheadOfPlace();
        numberAheadOfArrival();
    }

    /** Both plans are as late; the lesser hour of ship 0 counts, not its place, nor the order of begin. */
    private static void hourAheadOfPlace() {
        BerthPlan x = new BerthPlan(2);
        x.depth(1, 1, 50);
        x.ship(1, 0, 4, 0, 1);
        x.ship(1, 50, 4, 0, 1);
        x.ship(1, 0, 4, 0, 1);
        x.solve();
        dueBerth("hour ahead of place", x, 0, 0, 0);
        dueBerth("hour ahead of place", x, 1, 1, 0);
        dueBerth("hour ahead of place", x, 2, 0, 4);
    }

    /** Ships are compared by number, whichever of them begins first. */
    private static void numberAheadOfArrival() {
        BerthPlan x = new BerthPlan(2);
        x.ship(1, 0, 4, 1, 1);
        x.ship(1, 0, 4, 0, 1);
        x.solve();
        dueBerth("lesser place for the lesser number", x, 0, 0, 1);
        dueBerth("lesser place for the lesser number", x, 1, 1, 0);
        // Ship 0 between the two others, in either order: 2 * 1 + 1 * 4 or 2 * 3.
        BerthPlan y = new BerthPlan(1);
        y.ship(1, 0, 1, 2, 2);
        y.ship(1, 0, 3, 0, 2);
        y.ship(1, 0, 2, 0, 1);
        y.solve();
        due("lateness", y.lateness(), 6);
        dueBerth("lesser hour for the lesser number", y, 0, 0, 2);
        dueBerth("lesser hour for the lesser number", y, 1, 0, 3);
        dueBerth("lesser hour for the lesser number", y, 2, 0, 0);
    }

    private static void solveByGearDepthAndTide() {
        BerthPlan x = new BerthPlan(5);
        x.depth(0, 0, 9);
        x.gear(0, 1, true);
        x.gear(1, 1, true);
        x.gear(3, 2, true);
        x.gear(4, 1, true);
        x.ship(2, 10, 1, 4, 3);
        x.wants(0, 1, true);
        x.wants(0, 2, true);
        x.tide(1, 3);
        x.tide(6, 7);
        due("solve", x.solve(), 1);
        dueBerth("kinds of gear at two places together", x, 0, 3, 6);
        x.depth(0, 0, 10);
        x.gear(0, 2, true);
        x.solve();
        dueBerth("just deep enough", x, 0, 0, 6);
    }

    private static void solveRoundFixed() {
        BerthPlan x = new BerthPlan(2);
        x.ship(2, 0, 3, 0, 1);
        x.ship(1, 90, 2, 10, 7);
        x.fix(1, 1, 2);
        due("solve", x.solve(), 1);
        dueBerth("behind the fixed one", x, 0, 0, 4);
        due("lateness ahead of arrival", x.lateness(), 4 - 56);
        x.fix(1, 1, 3);
        x.solve();
        dueBerth("ahead of the fixed one", x, 0, 0, 0);
        x.tide(15, 15);
        x.solve();
        dueBerth("fixed whatever the tide", x, 1, 1, 3);
        dueBerth("by the tide", x, 0, 0, 15);
    }

    // Promise 10

    private static void at() {
        BerthPlan x = new BerthPlan(2);
        CHECK.dueThrows("at without ships", INDEX, () -> x.at(0, 0));
        x.ship(1, 0, 3, 2, 1);
        CHECK.dueThrows("at without a plan", STATE, () -> x.at(0, 0));
        CHECK.dueThrows("at of no ship without a plan", INDEX, () -> x.at(1, 0));
        CHECK.dueThrows("at of no what without a plan", INDEX, () -> x.at(0, 3));
        x.tide(7, 7);
        x.gear(1, 0, true);
        x.wants(0, 0, true);
        x.solve();
        due("at(0, 0)", x.at(0, 0), 1);
        due("at(0, 1)", x.at(0, 1), 7);
        due("at(0, 2)", x.at(0, 2), 5);
        for (int number : new int[] {-1, 3, LEAST, MOST}) {
            CHECK.dueThrows("at(0, " + number + ")", INDEX, () -> x.at(0, number));
            CHECK.dueThrows("at(" + number + ", 0)", INDEX, () -> x.at(number, 0));
        }
        CHECK.dueThrows("at(1, 0)", INDEX, () -> x.at(1, 0));
        x.fix(0, 0, 0);
        x.solve();
        due("at(0, 2) of one ahead", x.at(0, 2), -2);
    }

    // Promise 11

    private static void lateness() {
        BerthPlan x = new BerthPlan(1);
        CHECK.dueThrows("lateness() without a plan", STATE, x::lateness);
        x.solve();
        due("lateness of no ship", x.lateness(), 0);
        x.ship(1, 0, 5, 0, 100);
        x.ship(1, 0, 5, 0, 7);
        x.ship(1, 0, 5, 1, 3);
        CHECK.dueThrows("lateness() of a void plan", STATE, x::lateness);
        x.solve();
        due("lateness", x.lateness(), 7 * 5 + 3 * 9);
        x.ship(1, 0, 1, 0, 1);
        x.fix(3, 0, 15);
        x.fix(0, 0, 10);
        due("solve", x.solve(), 1);
        due("lateness", x.lateness(), 100 * 10 + 7 * 0 + 3 * 4 + 15);
        x.fix(1, 0, 3);
        due("solve", x.solve(), 0);
        CHECK.dueThrows("lateness() if there is none", STATE, x::lateness);
    }

    // Promise 12

    private static void bound() {
        BerthPlan x = new BerthPlan(2);
        due("bound of no ship", x.bound(), 0);
        x.ship(2, 0, 24, 3, 5);
        x.ship(2, 0, 24, 3, 7);
        due("bound of ships that meet", x.bound(), 0);
        x.tide(6, 6);
        due("bound by the tide", x.bound(), 3 * 5 + 3 * 7);
        x.fix(0, 0, 1);
        due("bound of a fixed one, another not beside it", x.bound(), -2 * 5 + 3 * 7);
        due("no plan by it", x.count(3), 0);
        x.depth(1, 1, 0);
        due("bound with enough depth", x.bound(), -2 * 5 + 3 * 7);
        x.ship(1, 21, 1, 0, 1);
        due("bound if one can't", x.bound(), BerthPlan.NONE);
        x.fix(2, 0, 0);
        due("bound if it is fixed", x.bound(), -2 * 5 + 3 * 7);
        x.ship(3, 0, 1, 0, 1);
        due("bound if one is too long", x.bound(), BerthPlan.NONE);
    }

    // Promise 13

    private static void why() {
        BerthPlan x = new BerthPlan(4);
        for (int number : new int[] {-1, 0, LEAST, MOST}) {
            CHECK.dueThrows("why(" + number + ")", INDEX, () -> x.why(number));
        }
        x.ship(5, 100, 1, 10, 1);
        x.wants(0, 0, true);
        x.tide(0, 9);
        due("longer than the quay ahead of all else", x.why(0), 1);
        x.ship(2, 30, 1, 10, 1);
        x.wants(1, 0, true);
        x.wants(1, 1, true);
        due("not deep", x.why(1), 2);
        x.depth(0, 0, 30);
        x.depth(2, 2, 30);
        due("deep places, no row of them", x.why(1), 2);
        x.depth(1, 1, 30);
        x.gear(0, 0, true);
        x.gear(2, 1, true);
        x.gear(3, 0, true);
        due("gear at no row that is deep", x.why(1), 3);
        x.depth(3, 3, 30);
        due("no hour by the tide", x.why(1), 4);
        x.tide(16, 20);
        due("no hour by the tide, 0 .. 15", x.why(1), 4);
        x.tide(15, 15);
        due("it can", x.why(1), 0);
        due("solve", x.solve(), 0);
        x.ship(4, 100, 24, 0, 1);
        due("not deep", x.why(2), 2);
        x.fix(2, 0, 0);
        due("it is fixed", x.why(2), 0);
        due("it can alone, though not beside a fixed one", x.why(1), 0);
    }

    // Promise 14

    private static void change() {
        BerthPlan x = new BerthPlan(2);
        x.ship(2, 0, 4, 0, 10);
        x.ship(1, 0, 4, 1, 1);
        x.ship(1, 0, 4, 1, 1);
        x.solve();
        dueBerth("ahead of the change", x, 1, 0, 4);
        due("change to the same hour", x.change(1, 1), 0);
        due("change of one", x.change(2, 5), 1);
        due("hour", x.at(2, 1), 5);
        due("late", x.at(2, 2), 0);
        due("change to an hour at which it has its berth", x.change(1, 4), 0);
        due("lateness", x.lateness(), 0);
        due("change of the first", x.change(0, 15), 1);
        due("change that moves another one to another place alone", x.change(1, 9), 2);
        dueBerth("after the changes", x, 1, 0, 9);
        dueBerth("after the changes", x, 2, 0, 5);
        due("there is a plan", x.count(3), 1);
        changeOfFixed();
        changeWithoutPlanNow();
    }

    private static void changeOfFixed() {
        BerthPlan x = new BerthPlan(1);
        x.ship(1, 0, 4, 2, 3);
        x.fix(0, 0, 2);
        x.solve();
        due("change of a fixed one", x.change(0, 15), 0);
        due("its lateness", x.lateness(), -39);
    }

    private static void changeWithoutPlanNow() {
        BerthPlan x = new BerthPlan(1);
        x.ship(1, 0, 4, 2, 3);
        x.tide(0, 9);
        x.solve();
        due("change to behind the tide", x.change(0, 10), -1);
        due("no plan now", x.count(3), 0);
        CHECK.dueThrows("change without a plan", STATE, () -> x.change(0, 2));
        due("the arrival has changed", x.why(0), 4);
        due("solve", x.solve(), 0);
        x.tide(10, 11);
        due("solve", x.solve(), 1);
        due("late", x.at(0, 2), 0);
    }

    private static void changeRefused() {
        BerthPlan x = new BerthPlan(1);
        CHECK.dueThrows("change without ships", INDEX, () -> x.change(0, 16));
        x.ship(1, 0, 4, 2, 3);
        CHECK.dueThrows("change of no ship", INDEX, () -> x.change(1, 16));
        CHECK.dueThrows("change to no hour without a plan", ARGUMENT, () -> x.change(0, 16));
        CHECK.dueThrows("change without a plan", STATE, () -> x.change(0, 9));
        x.solve();
        due("arrival is as it was", x.at(0, 1), 2);
        for (int number : new int[] {-1, 16, LEAST, MOST}) {
            CHECK.dueThrows("change(0, " + number + ")", ARGUMENT, () -> x.change(0, number));
            CHECK.dueThrows("change(" + number + ", 0)", INDEX, () -> x.change(number, 0));
        }
        due("the plan stands", x.at(0, 1), 2);
        due("change to 0", x.change(0, 0), 1);
        due("change to 15", x.change(0, 15), 1);
    }

    // Promise 15

    private static void lies() {
        BerthPlan x = new BerthPlan(4);
        CHECK.dueThrows("lies without a plan", STATE, () -> x.lies(0, 0));
        CHECK.dueThrows("lies at no place without a plan", STATE, () -> x.lies(9, 99));
        x.solve();
        due("lies without ships", x.lies(0, 0), BerthPlan.NONE);
        x.ship(2, 0, 3, 1, 1);
        x.ship(1, 0, 24, 15, 1);
        x.fix(0, 1, 5);
        x.fix(1, 3, 15);
        x.solve();
        int[][] want = {{1, 5, 0}, {2, 7, 0}, {2, 5, 0}, {0, 5, -1}, {3, 5, -1}, {1, 4, -1}, {1, 8, -1}, {2, 8, -1},
            {3, 15, 1}, {3, 38, 1}, {3, 39, -1}, {3, 14, -1}, {2, 15, -1}, {4, 15, -1}, {-1, 5, -1}, {1, -1, -1},
            {3, 40, -1}, {LEAST, 5, -1}, {MOST, 5, -1}, {1, LEAST, -1}, {1, MOST, -1}, {MOST, MOST, -1}};
        for (int[] w : want) {
            due("lies(" + w[0] + ", " + w[1] + ")", x.lies(w[0], w[1]), w[2]);
        }
        x.free(0);
        CHECK.dueThrows("lies by a void plan", STATE, () -> x.lies(0, 0));
    }

    // Promise 16

    private static void share() {
        BerthPlan x = new BerthPlan(6);
        x.depth(0, 2, 50);
        due("share(10, 3, 20)", x.share(10, 3, 20), 5);
        due("share(10, 3, 21)", x.share(10, 3, 21), 10);
        due("share(10, 2, 50)", x.share(10, 2, 50), 6);
        due("share(0, 7, 0)", x.share(0, 7, 0), 0);
        due("share(7, 0, 0)", x.share(7, 0, 0), 0);
        due("share of a million", x.share(1000000, 1000000, LEAST), 166666666666L);
        x.depth(0, 0, 100);
        due("share with one place", x.share(1000000, 1000000, 51), 1000000000000L);
        due("share(3, 1, -5)", x.share(3, 1, -5), 0);
        CHECK.dueThrows("share with no place", ARITHMETIC, () -> x.share(1, 1, 101));
        CHECK.dueThrows("share with no place", ARITHMETIC, () -> x.share(0, 0, MOST));
        for (int number : new int[] {-1, 1000001, LEAST, MOST}) {
            CHECK.dueThrows("share(" + number + ", 1, 101)", ARGUMENT, () -> x.share(number, 1, 101));
            CHECK.dueThrows("share(1, " + number + ", 0)", ARGUMENT, () -> x.share(1, number, 0));
        }
    }

    // Promise 17

    private static void count() {
        BerthPlan x = new BerthPlan(3);
        x.ship(1, 0, 1, 0, 1);
        x.ship(1, 0, 1, 0, 1);
        x.tide(0, 39);
        x.fix(1, 0, 0);
        x.depth(2, 2, 44);
        x.gear(2, 0, true);
        x.gear(2, 7, true);
        int[] want = {3, 2, 1, 0, 1};
        for (int what = 0; what < want.length; what++) {
            due("count(" + what + ")", x.count(what), want[what]);
        }
        x.solve();
        due("count(3)", x.count(3), 1);
        due("count(10)", x.count(10), 20);
        due("count(12)", x.count(12), 44);
        due("count(20)", x.count(20), 0);
        due("count(22)", x.count(22), 129);
        for (int what : new int[] {-1, 5, 9, 13, 15, 16, 19, 23, 25, 26, 30, LEAST, LEAST + 5, LEAST + 15, MOST}) {
            due("count(" + what + ")", x.count(what), BerthPlan.NONE);
        }
        BerthPlan six = new BerthPlan(6);
        due("count(15)", six.count(15), 20);
        due("count(25)", six.count(25), 0);
        due("count(16)", six.count(16), BerthPlan.NONE);
        due("count(26)", six.count(26), BerthPlan.NONE);
    }

    // Terms

    private static BerthPlan planned() {
        BerthPlan x = new BerthPlan(2);
        x.ship(1, 0, 2, 0, 1);
        x.ship(1, 0, 2, 0, 1);
        x.fix(1, 1, 3);
        x.solve();
        return x;
    }

    private static void dueVoid(String told, BerthPlan x, boolean answer) {
        due(told, answer, true);
        due("plan after " + told, x.count(3), 0);
        CHECK.dueThrows("lateness() after " + told, STATE, x::lateness);
        CHECK.dueThrows("at(0, 0) after " + told, STATE, () -> x.at(0, 0));
    }

    private static void whatIsToldVoidsThePlan() {
        BerthPlan x = planned();
        dueVoid("ship", x, x.ship(1, 0, 1, 0, 1) == 2);
        x = planned();
        dueVoid("depth", x, x.depth(0, 0, 20));
        x = planned();
        dueVoid("gear", x, x.gear(0, 0, true));
        dueVoid("gear no more", x, x.solve() == 1 && x.gear(0, 0, false));
        x = planned();
        dueVoid("wants", x, x.wants(1, 0, true));
        dueVoid("wants no more", x, x.solve() == 1 && x.wants(1, 0, false));
        x = planned();
        dueVoid("tide", x, x.tide(0, 39));
        x = planned();
        dueVoid("fix", x, x.fix(0, 0, 0));
        dueVoid("fix as it is", x, x.solve() == 1 && x.fix(0, 0, 0));
        dueVoid("free", x, x.solve() == 1 && x.free(0));
    }

    private static void whatIsRefusedChangesNothing() {
        BerthPlan x = planned();
        x.depth(1, 0, 5);
        x.gear(0, 0, false);
        x.wants(0, 0, false);
        x.tide(1, 0);
        x.fix(0, 1, 2);
        x.free(0);
        CHECK.dueThrows("ship that can't be", ARGUMENT, () -> x.ship(1, 1, 0, 1, 1));
        CHECK.dueThrows("change to no hour", ARGUMENT, () -> x.change(0, 16));
        x.bound();
        x.why(0);
        due("the plan stands", x.count(3), 1);
        dueBerth("the plan stands", x, 0, 0, 0);
        dueBerth("the plan stands", x, 1, 1, 3);
    }
}
