import java.util.function.Predicate;

/** Terms: what is told makes the plan void (an answer of false and exceptions change nothing). */
public final class TermsVoidTest {
    private static final Check CHECK = new Check("Terms, a void plan");

    public static void main(String[] args) {
        situationsAreWhatTheySay();
        toldShip();
        toldDepth();
        toldGear();
        toldWants();
        toldTide();
        toldFix();
        toldFree();
        toldToAQuayWithoutShips();
        voidUntilSolved();
        changeIsNotVoid();
        falseLeavesThePlan();
        exceptionsLeaveThePlan();
        askingLeavesThePlan();
        CHECK.end();
    }

    /** The tests of refused calls lean on these. */
    private static void situationsAreWhatTheySay() {
        CHECK.due("no plan of a new object", Quays.NEW.made().count(3), 0);
        CHECK.due("plan without ships", Quays.WITHOUT_SHIPS.made().count(3), 1);
        CHECK.due("plan", Quays.PLANNED.made().count(3), 1);
        CHECK.due("a plan is there again", Quays.VOID.made().solve(), 1);
        for (Quays quay : Quays.WITHOUT_A_PLAN) {
            CHECK.due("no plan, quay " + quay, quay.made().count(3), 0);
        }
        CHECK.due("there is a plan of it", Quays.UNSOLVED.made().solve(), 1);
        CHECK.due("there is none since the change", Quays.CHANGED.made().solve(), 0);
        CHECK.due("there is none", Quays.STUCK.made().solve(), 0);
        CHECK.due("plan of the full one", Quays.FULL.made().count(3), 1);
    }

    private static void dueVoid(String told, Predicate<BerthPlan> tell) {
        BerthPlan x = Quays.PLANNED.made();
        CHECK.due(told, tell.test(x), true);
        CHECK.due("plan after " + told, x.count(3), 0);
        CHECK.dueThrows("at after " + told, Check.STATE, () -> x.at(0, 0));
        CHECK.dueThrows("lateness after " + told, Check.STATE, x::lateness);
        CHECK.dueThrows("lies after " + told, Check.STATE, () -> x.lies(0, 0));
        CHECK.dueThrows("change after " + told, Check.STATE, () -> x.change(0, 0));
    }

    private static void dueStands(String call, Predicate<BerthPlan> refused) {
        BerthPlan x = Quays.PLANNED.made();
        CHECK.due(call, refused.test(x), true);
        CHECK.due("plan after " + call, x.count(3), 1);
        CHECK.dueBerth("after " + call, x, 0, 1, 1);
        CHECK.dueBerth("after " + call, x, 1, 0, 2);
        CHECK.dueBerth("after " + call, x, 2, 2, 4);
        CHECK.due("lateness after " + call, x.lateness(), -6);
        CHECK.due("lies after " + call, x.lies(2, 4), 2);
    }

    private static void toldShip() {
        dueVoid("a ship", x -> x.ship(1, 0, 1, 0, 1) == 3);
    }

    private static void toldDepth() {
        dueVoid("a depth", x -> x.depth(0, 0, 21));
        dueVoid("a depth as it is", x -> x.depth(0, 0, 20));
        dueVoid("a depth that no ship needs", x -> x.depth(3, 3, 0));
    }

    private static void toldGear() {
        dueVoid("gear", x -> x.gear(3, 0, true));
        dueVoid("gear no more", x -> x.gear(1, 2, false));
    }

    private static void toldWants() {
        dueVoid("wants", x -> x.wants(1, 0, true));
        dueVoid("wants no more", x -> x.wants(0, 5, false));
        dueVoid("wants of a fixed one", x -> x.wants(2, 0, true));
    }

    private static void toldTide() {
        dueVoid("tide", x -> x.tide(0, 39));
        dueVoid("a tide that is there", x -> x.tide(0, 3));
        dueVoid("a tide behind all begins", x -> x.tide(39, 39));
    }

    private static void toldFix() {
        dueVoid("fix", x -> x.fix(0, 0, 9));
        dueVoid("fix to its berth", x -> x.fix(0, 1, 1));
        dueVoid("fix as it is", x -> x.fix(2, 2, 4));
    }

    private static void toldFree() {
        dueVoid("free", x -> x.free(2));
    }

    private static void toldToAQuayWithoutShips() {
        BerthPlan x = Quays.WITHOUT_SHIPS.made();
        x.depth(0, 0, 20);
        CHECK.due("plan after a depth", x.count(3), 0);
        x.solve();
        x.gear(0, 0, true);
        CHECK.due("plan after gear", x.count(3), 0);
        x.solve();
        x.tide(0, 0);
        CHECK.due("plan after tide", x.count(3), 0);
        x.solve();
        CHECK.due("plan after solve", x.count(3), 1);
    }

    private static void voidUntilSolved() {
        BerthPlan x = Quays.PLANNED.made();
        x.gear(3, 0, true);
        x.gear(3, 0, false);
        CHECK.due("plan after it is as it was", x.count(3), 0);
        x.bound();
        x.why(0);
        CHECK.due("plan after asking", x.count(3), 0);
        CHECK.due("solve", x.solve(), 1);
        CHECK.due("plan after solve", x.count(3), 1);
    }

    private static void changeIsNotVoid() {
        BerthPlan x = Quays.PLANNED.made();
        CHECK.due("change", x.change(1, 3), 1);
        CHECK.due("plan after change", x.count(3), 1);
        CHECK.dueBerth("after change", x, 1, 0, 3);
    }

    private static void falseLeavesThePlan() {
        dueStands("depth at no place", x -> !x.depth(0, 4, 50));
        dueStands("depth that can't be", x -> !x.depth(0, 0, 101));
        dueStands("gear it has", x -> !x.gear(1, 2, true));
        dueStands("gear it has not", x -> !x.gear(0, 2, false));
        dueStands("gear of no kind", x -> !x.gear(0, 8, true));
        dueStands("wants as it is", x -> !x.wants(0, 2, true));
        dueStands("wants as it is not", x -> !x.wants(1, 2, false));
        dueStands("wants of no ship", x -> !x.wants(3, 2, true));
        dueStands("tide of no hours", x -> !x.tide(39, 40));
        dueStands("tide the wrong way", x -> !x.tide(5, 4));
        dueStands("fix across a fixed one", x -> !x.fix(0, 1, 4));
        dueStands("fix outside the quay", x -> !x.fix(2, 4, 4));
        dueStands("fix at no hour", x -> !x.fix(2, 2, 16));
        dueStands("free of one not fixed", x -> !x.free(0));
        dueStands("free of no ship", x -> !x.free(3));
        BerthPlan full = Quays.FULL.made();
        CHECK.due("a ninth span", full.tide(0, 0), false);
        CHECK.due("plan after a ninth span", full.count(3), 1);
    }

    private static void exceptionsLeaveThePlan() {
        String index = "throws.IndexOutOfBoundsException";
        String argument = "throws.IllegalArgumentException";
        dueStands("a ship that can't be", x -> Check.outcome(() -> x.ship(7, 0, 1, 0, 1)).equals(argument));
        dueStands("at of no ship", x -> Check.outcome(() -> x.at(3, 0)).equals(index));
        dueStands("at of no what", x -> Check.outcome(() -> x.at(0, 3)).equals(index));
        dueStands("why of no ship", x -> Check.outcome(() -> x.why(3)).equals(index));
        dueStands("change of no ship", x -> Check.outcome(() -> x.change(3, 0)).equals(index));
        dueStands("change to no hour", x -> Check.outcome(() -> x.change(0, 16)).equals(argument));
        dueStands("share of no length", x -> Check.outcome(() -> x.share(-1, 0, 0)).equals(argument));
        dueStands("share of no place",
                x -> Check.outcome(() -> x.share(1, 1, 31)).equals("throws.ArithmeticException"));
        BerthPlan full = Quays.FULL.made();
        CHECK.dueThrows("a fifth ship", Check.STATE, () -> full.ship(1, 0, 1, 0, 1));
        CHECK.due("plan after a fifth ship", full.count(3), 1);
    }

    private static void askingLeavesThePlan() {
        dueStands("at", x -> x.at(0, 2) == 0);
        dueStands("lateness", x -> x.lateness() == -6);
        dueStands("bound", x -> x.bound() == -6);
        dueStands("why", x -> x.why(0) == 0);
        dueStands("lies", x -> x.lies(3, 0) == BerthPlan.NONE);
        dueStands("lies at no place", x -> x.lies(4, 0) == BerthPlan.NONE);
        dueStands("share", x -> x.share(8, 1, 20) == 2);
        dueStands("count", x -> x.count(5) == BerthPlan.NONE);
        dueStands("solve", x -> x.solve() == 1);
    }
}
