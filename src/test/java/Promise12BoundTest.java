/**
 * Promise 12: the sum of WEIGHT * (hour - arrival) of all ships, each at the first hour at which it may be
 * alone; NONE if one of them can't.
 */
public final class Promise12BoundTest {
    private static final Check CHECK = new Check("Promise 12, bound");

    public static void main(String[] args) {
        ofNoShip();
        othersDoNotCount();
        firstHourByTide();
        arrivalIsTheFirstHour();
        fixedOneAtItsHour();
        fixedOneThatElseCant();
        noneIfOneIsTooLong();
        noneIfOneIsTooDeep();
        noneIfOneHasNotItsGear();
        noneIfOneHasNoHour();
        noneIfTheLastOneCant();
        greatestAndLeast();
        withAndWithoutAPlan();
        askingChangesNothing();
        CHECK.end();
    }

    private static void dueBound(String run, BerthPlan x, int want) {
        CHECK.due(run + ": bound", x.bound(), want);
    }

    private static void ofNoShip() {
        dueBound("no ship", Quays.NEW.made(), 0);
        BerthPlan x = new BerthPlan(1);
        x.tide(39, 39);
        dueBound("no ship and no hour", x, 0);
    }

    private static void othersDoNotCount() {
        BerthPlan x = new BerthPlan(2);
        x.ship(2, 0, 24, 3, 5);
        x.ship(2, 0, 24, 3, 7);
        dueBound("ships that meet", x, 0);
        CHECK.due("solve", x.solve(), 0);
        dueBound("there is no plan", x, 0);
        x.fix(0, 0, 3);
        dueBound("a fixed one is in the other's way", x, 0);
    }

    private static void firstHourByTide() {
        BerthPlan x = new BerthPlan(1);
        x.ship(1, 0, 1, 3, 5);
        x.ship(1, 0, 1, 7, 2);
        x.tide(0, 2);
        x.tide(6, 7);
        dueBound("a span behind the one, another one's last hour", x, 3 * 5);
        x.tide(3, 3);
        dueBound("a span at its arrival", x, 0);
    }

    private static void arrivalIsTheFirstHour() {
        for (int arrives = 0; arrives <= 15; arrives++) {
            BerthPlan x = new BerthPlan(1);
            x.ship(1, 0, 24, arrives, 100);
            dueBound("arrives at " + arrives, x, 0);
        }
    }

    private static void fixedOneAtItsHour() {
        BerthPlan x = new BerthPlan(2);
        x.ship(1, 0, 2, 5, 3);
        x.ship(1, 0, 2, 5, 4);
        x.fix(0, 0, 7);
        dueBound("fixed behind its arrival", x, 3 * 2);
        x.fix(0, 0, 1);
        dueBound("fixed ahead of its arrival", x, 3 * -4);
        x.free(0);
        dueBound("free", x, 0);
    }

    private static void fixedOneThatElseCant() {
        BerthPlan x = new BerthPlan(1);
        x.ship(1, 100, 1, 10, 3);
        x.wants(0, 0, true);
        x.tide(39, 39);
        dueBound("it can't", x, BerthPlan.NONE);
        x.fix(0, 0, 12);
        dueBound("it is fixed", x, 6);
    }

    private static void noneIfOneIsTooLong() {
        BerthPlan x = new BerthPlan(3);
        x.ship(3, 0, 1, 0, 1);
        dueBound("as long as the quay", x, 0);
        x.ship(4, 0, 1, 0, 1);
        dueBound("longer than the quay", x, BerthPlan.NONE);
    }

    private static void noneIfOneIsTooDeep() {
        BerthPlan x = new BerthPlan(3);
        x.ship(2, 20, 1, 0, 1);
        dueBound("as deep as the quay", x, 0);
        x.depth(1, 1, 19);
        dueBound("no row deep enough", x, BerthPlan.NONE);
        x.depth(1, 1, 20);
        dueBound("deep enough again", x, 0);
    }

    private static void noneIfOneHasNotItsGear() {
        BerthPlan x = new BerthPlan(3);
        x.ship(2, 0, 1, 0, 1);
        x.wants(0, 0, true);
        x.wants(0, 7, true);
        x.gear(0, 0, true);
        x.gear(2, 7, true);
        dueBound("its kinds at no row together", x, BerthPlan.NONE);
        x.gear(1, 7, true);
        dueBound("its kinds at one row", x, 0);
    }

    private static void noneIfOneHasNoHour() {
        BerthPlan x = new BerthPlan(1);
        x.ship(1, 0, 1, 6, 1);
        x.tide(0, 5);
        x.tide(16, 39);
        dueBound("no hour by the tide", x, BerthPlan.NONE);
        x.tide(15, 15);
        dueBound("the last hour by the tide", x, 9);
    }

    private static void noneIfTheLastOneCant() {
        BerthPlan x = new BerthPlan(1);
        for (int ship = 0; ship < 3; ship++) {
            x.ship(1, 0, 1, 15, 100);
            x.fix(ship, 0, ship);
        }
        dueBound("three far ahead", x, -100 * (15 + 14 + 13));
        x.ship(1, 21, 1, 0, 1);
        dueBound("three far ahead and one that can't", x, BerthPlan.NONE);
    }

    private static void greatestAndLeast() {
        BerthPlan x = new BerthPlan(1);
        BerthPlan y = new BerthPlan(4);
        x.tide(15, 15);
        for (int ship = 0; ship < 4; ship++) {
            x.ship(1, 0, 24, 0, 100);
            y.ship(1, 0, 24, 15, 100);
            y.fix(ship, ship, 0);
        }
        dueBound("four ships 15 hours late", x, 6000);
        dueBound("four ships 15 hours ahead", y, -6000);
    }

    private static void withAndWithoutAPlan() {
        BerthPlan x = new BerthPlan(1);
        x.ship(1, 0, 5, 0, 2);
        x.ship(1, 0, 5, 0, 3);
        dueBound("ahead of solve", x, 0);
        x.solve();
        dueBound("with a plan that is later", x, 0);
        CHECK.due("lateness", x.lateness(), 10);
        CHECK.due("plan", x.count(3), 1);
        x.tide(1, 39);
        dueBound("with a void plan", x, 5);
    }

    private static void askingChangesNothing() {
        Unchanged.due(CHECK, "bound()", BerthPlan::bound, Quays.values());
    }
}
