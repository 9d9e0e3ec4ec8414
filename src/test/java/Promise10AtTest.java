/**
 * Promise 10: of a ship by the plan: what 0: place, 1: hour, 2: hours late (hour less arrival).
 * IndexOutOfBoundsException if there is no such ship or what; IllegalStateException without a plan.
 */
public final class Promise10AtTest {
    private static final Check CHECK = new Check("Promise 10, at");

    public static void main(String[] args) {
        placeHourAndHoursLate();
        firstAndLastShip();
        shipsJustOutsideRefused();
        whatsJustOutsideRefused();
        withoutShipsRefused();
        withoutAPlanRefused();
        noSuchShipOrWhatIsToldFirst();
        hoursLateAtTheirEdges();
        hoursLateByTheArrivalNow();
        askingChangesNothing();
        CHECK.end();
    }

    private static void dueAt(BerthPlan x, int ship, int what, int want) {
        CHECK.due("at(" + ship + ", " + what + ")", x.at(ship, what), want);
    }

    private static void dueIndex(BerthPlan x, int ship, int what) {
        CHECK.dueThrows("at(" + ship + ", " + what + ") of " + x.count(1) + " ships", Check.INDEX,
                () -> x.at(ship, what));
    }

    private static void placeHourAndHoursLate() {
        BerthPlan x = new BerthPlan(3);
        x.ship(1, 0, 3, 2, 1);
        x.tide(7, 7);
        x.gear(2, 0, true);
        x.wants(0, 0, true);
        x.solve();
        dueAt(x, 0, 0, 2);
        dueAt(x, 0, 1, 7);
        dueAt(x, 0, 2, 5);
    }

    private static void firstAndLastShip() {
        BerthPlan x = new BerthPlan(6);
        for (int ship = 0; ship < 4; ship++) {
            x.ship(1, 0, 24, ship, 1);
        }
        x.solve();
        for (int ship = 0; ship < 4; ship++) {
            dueAt(x, ship, 0, ship);
            dueAt(x, ship, 1, ship);
            dueAt(x, ship, 2, 0);
        }
    }

    private static void shipsJustOutsideRefused() {
        for (int ships = 0; ships <= 4; ships++) {
            BerthPlan x = new BerthPlan(6);
            for (int ship = 0; ship < ships; ship++) {
                x.ship(1, 0, 1, 0, 1);
            }
            x.solve();
            for (int what = 0; what <= 2; what++) {
                dueIndex(x, -1, what);
                dueIndex(x, ships, what);
                dueIndex(x, 4, what);
                for (int ship : Check.WILD) {
                    dueIndex(x, ship, what);
                }
            }
        }
    }

    private static void whatsJustOutsideRefused() {
        BerthPlan x = Quays.FULL.made();
        for (int ship = 0; ship < 4; ship++) {
            dueIndex(x, ship, -1);
            dueIndex(x, ship, 3);
            for (int what : Check.WILD) {
                dueIndex(x, ship, what);
            }
        }
    }

    private static void withoutShipsRefused() {
        for (Quays quay : new Quays[] {Quays.NEW, Quays.WITHOUT_SHIPS}) {
            BerthPlan x = quay.made();
            dueIndex(x, 0, 0);
            dueIndex(x, 0, 3);
        }
    }

    private static void withoutAPlanRefused() {
        for (Quays quay : Quays.WITHOUT_A_PLAN) {
            BerthPlan x = quay.made();
            for (int what = 0; what <= 2; what++) {
                int asked = what;
                CHECK.dueThrows("at(0, " + what + "), quay " + quay, Check.STATE, () -> x.at(0, asked));
            }
        }
    }

    private static void noSuchShipOrWhatIsToldFirst() {
        for (Quays quay : Quays.WITHOUT_A_PLAN) {
            BerthPlan x = quay.made();
            dueIndex(x, -1, 0);
            dueIndex(x, 4, 0);
            dueIndex(x, 0, -1);
            dueIndex(x, 0, 3);
            dueIndex(x, 4, 3);
        }
        dueIndex(Quays.VOID.made(), 3, 0);
    }

    private static void hoursLateAtTheirEdges() {
        BerthPlan x = new BerthPlan(3);
        x.ship(1, 0, 1, 0, 1);
        x.ship(1, 0, 1, 15, 1);
        x.ship(1, 0, 1, 9, 1);
        x.fix(0, 0, 15);
        x.fix(1, 1, 0);
        x.solve();
        dueAt(x, 0, 2, 15);
        dueAt(x, 1, 2, -15);
        dueAt(x, 2, 2, 0);
    }

    private static void hoursLateByTheArrivalNow() {
        BerthPlan x = new BerthPlan(1);
        x.ship(1, 0, 1, 4, 1);
        x.fix(0, 0, 6);
        x.solve();
        dueAt(x, 0, 2, 2);
        x.change(0, 7);
        dueAt(x, 0, 1, 6);
        dueAt(x, 0, 2, -1);
    }

    private static void askingChangesNothing() {
        for (int[] asked : new int[][] {{0, 0}, {0, 2}, {-1, 0}, {4, 0}, {0, -1}, {0, 3}}) {
            Unchanged.due(CHECK, "at(" + asked[0] + ", " + asked[1] + ")", x -> x.at(asked[0], asked[1]),
                    Quays.values());
        }
    }
}
