/** Terms: of several exceptions the one told first is thrown. */
public final class TermsOrderOfExceptionsTest {
    private static final Check CHECK = new Check("Terms, the order of exceptions");

    public static void main(String[] args) {
        shipArgumentAheadOfState();
        atIndexAheadOfState();
        changeIndexAheadOfArgumentAndState();
        changeArgumentAheadOfState();
        shareArgumentAheadOfArithmetic();
        CHECK.end();
    }

    private static void shipArgumentAheadOfState() {
        BerthPlan x = Quays.FULL.made();
        CHECK.dueThrows("four ships", Check.STATE, () -> x.ship(1, 0, 1, 0, 1));
        CHECK.dueThrows("four ships, length 0", Check.ARGUMENT, () -> x.ship(0, 0, 1, 0, 1));
        CHECK.dueThrows("four ships, weight 101", Check.ARGUMENT, () -> x.ship(1, 0, 1, 0, 101));
        CHECK.dueThrows("no ship, weight 101", Check.ARGUMENT, () -> Quays.NEW.made().ship(1, 0, 1, 0, 101));
    }

    private static void atIndexAheadOfState() {
        BerthPlan x = Quays.VOID.made();
        CHECK.dueThrows("no plan", Check.STATE, () -> x.at(0, 0));
        CHECK.dueThrows("no plan, no ship", Check.INDEX, () -> x.at(3, 0));
        CHECK.dueThrows("no plan, no what", Check.INDEX, () -> x.at(0, 3));
        CHECK.dueThrows("no ship", Check.INDEX, () -> Quays.PLANNED.made().at(3, 0));
        CHECK.dueThrows("nothing told", Check.INDEX, () -> Quays.NEW.made().at(0, 0));
    }

    private static void changeIndexAheadOfArgumentAndState() {
        BerthPlan x = Quays.VOID.made();
        CHECK.dueThrows("no plan, no ship", Check.INDEX, () -> x.change(3, 0));
        CHECK.dueThrows("no plan, no ship, no hour", Check.INDEX, () -> x.change(3, 16));
        BerthPlan y = Quays.PLANNED.made();
        CHECK.dueThrows("no ship", Check.INDEX, () -> y.change(-1, 0));
        CHECK.dueThrows("no ship, no hour", Check.INDEX, () -> y.change(-1, -1));
        CHECK.dueThrows("nothing told, no hour", Check.INDEX, () -> Quays.NEW.made().change(0, 16));
    }

    private static void changeArgumentAheadOfState() {
        BerthPlan x = Quays.VOID.made();
        CHECK.dueThrows("no plan", Check.STATE, () -> x.change(0, 15));
        CHECK.dueThrows("no plan, no hour", Check.ARGUMENT, () -> x.change(0, 16));
        CHECK.dueThrows("no plan, no hour", Check.ARGUMENT, () -> x.change(0, -1));
        CHECK.dueThrows("no hour", Check.ARGUMENT, () -> Quays.PLANNED.made().change(0, 16));
    }

    private static void shareArgumentAheadOfArithmetic() {
        BerthPlan x = new BerthPlan(3);
        CHECK.dueThrows("no place", Check.ARITHMETIC, () -> x.share(1, 1, 21));
        CHECK.dueThrows("no place, no length", Check.ARGUMENT, () -> x.share(-1, 1, 21));
        CHECK.dueThrows("no place, no parts", Check.ARGUMENT, () -> x.share(1, 1000001, 21));
        CHECK.dueThrows("no length", Check.ARGUMENT, () -> x.share(1000001, 1, 20));
    }
}
