/**
 * Terms: TIDE: spans of hours (8 at most, both ends belong to them) at which ships may begin; any hour, if
 * none was told.
 */
public final class TermsTideTest {
    private static final Check CHECK = new Check("Terms, tide");

    public static void main(String[] args) {
        anyHourIfNoneWasTold();
        bothEndsBelongToASpan();
        severalSpans();
        spansThatMeetAndLikeSpans();
        lastOfEightSpansCounts();
        onlyTheBeginIsByTheTide();
        spansTellForAllShips();
        fixedShipsHaveNoTide();
        CHECK.end();
    }

    private static BerthPlan quayWithTides(int arrives, int[]... spans) {
        BerthPlan x = new BerthPlan(1);
        x.ship(1, 0, 1, arrives, 1);
        for (int[] span : spans) {
            x.tide(span[0], span[1]);
        }
        return x;
    }

    /** The hours by the tide, each with an x: a ship that arrives then may begin at once. */
    private static void dueHours(String run, String hours, int[]... spans) {
        StringBuilder seen = new StringBuilder();
        for (int hour = 0; hour <= 15; hour++) {
            seen.append(quayWithTides(hour, spans).bound() == 0 ? 'x' : '.');
        }
        CHECK.dueText(run, seen.toString(), hours);
    }

    private static void anyHourIfNoneWasTold() {
        dueHours("none told", "xxxxxxxxxxxxxxxx");
        dueHours("one refused", "xxxxxxxxxxxxxxxx", new int[] {6, 5});
        dueHours("one refused", "xxxxxxxxxxxxxxxx", new int[] {39, 40});
        dueHours("one told", ".........x......", new int[] {9, 9});
        dueHours("one told behind all begins", "................", new int[] {16, 39});
    }

    private static void bothEndsBelongToASpan() {
        dueHours("3 .. 7", "...xxxxx........", new int[] {3, 7});
        dueHours("0 .. 0", "x...............", new int[] {0, 0});
        dueHours("0 .. 1", "xx..............", new int[] {0, 1});
        dueHours("14 .. 15", "..............xx", new int[] {14, 15});
        dueHours("15 .. 15", "...............x", new int[] {15, 15});
        dueHours("15 .. 16", "...............x", new int[] {15, 16});
        dueHours("15 .. 39", "...............x", new int[] {15, 39});
        dueHours("16 .. 16", "................", new int[] {16, 16});
        dueHours("0 .. 39", "xxxxxxxxxxxxxxxx", new int[] {0, 39});
        dueHours("0 .. 15", "xxxxxxxxxxxxxxxx", new int[] {0, 15});
        dueHours("1 .. 14", ".xxxxxxxxxxxxxx.", new int[] {1, 14});
    }

    private static void severalSpans() {
        dueHours("two", ".xx....xxx......", new int[] {1, 2}, new int[] {7, 9});
        dueHours("two, the later one first", ".xx....xxx......", new int[] {7, 9}, new int[] {1, 2});
        dueHours("one of them behind all begins", ".xx.............", new int[] {1, 2}, new int[] {30, 39});
        CHECK.due("between two spans", quayWithTides(3, new int[] {1, 2}, new int[] {7, 9}).bound(), 4);
        CHECK.due("behind both", quayWithTides(10, new int[] {1, 2}, new int[] {7, 9}).bound(), BerthPlan.NONE);
    }

    private static void spansThatMeetAndLikeSpans() {
        dueHours("side by side", "..xxxxx.........", new int[] {2, 4}, new int[] {5, 6});
        dueHours("with an hour between", "..xxx.x.........", new int[] {2, 4}, new int[] {6, 6});
        dueHours("one across another", "..xxxxx.........", new int[] {2, 5}, new int[] {4, 6});
        dueHours("one within another", "..xxxxx.........", new int[] {2, 6}, new int[] {4, 4});
        dueHours("alike", "..xxx...........", new int[] {2, 4}, new int[] {2, 4});
    }

    private static void lastOfEightSpansCounts() {
        int[][] eight = {{0, 0}, {2, 2}, {4, 4}, {6, 6}, {8, 8}, {10, 10}, {12, 12}, {14, 14}};
        dueHours("eight", "x.x.x.x.x.x.x.x.", eight);
        int[][] nine = {{0, 0}, {2, 2}, {4, 4}, {6, 6}, {8, 8}, {10, 10}, {12, 12}, {14, 14}, {15, 15}};
        dueHours("nine, of which the last is refused", "x.x.x.x.x.x.x.x.", nine);
    }

    private static void onlyTheBeginIsByTheTide() {
        BerthPlan x = new BerthPlan(1);
        x.ship(1, 0, 24, 0, 1);
        x.tide(2, 2);
        CHECK.due("solve", x.solve(), 1);
        CHECK.dueBerth("it stays behind the tide", x, 0, 0, 2);
        CHECK.due("its last hour", x.lies(0, 25), 0);
    }

    private static void spansTellForAllShips() {
        BerthPlan x = new BerthPlan(1);
        x.ship(1, 0, 1, 0, 1);
        x.tide(3, 4);
        x.ship(1, 0, 1, 0, 2);
        CHECK.due("solve", x.solve(), 1);
        CHECK.dueBerth("told ahead of the tide", x, 0, 0, 4);
        CHECK.dueBerth("told behind the tide", x, 1, 0, 3);
        x.ship(1, 0, 1, 0, 1);
        CHECK.due("a third ship has no hour", x.solve(), 0);
        x.tide(15, 15);
        CHECK.due("one hour more", x.solve(), 1);
        CHECK.dueBerth("the third ship", x, 2, 0, 15);
    }

    private static void fixedShipsHaveNoTide() {
        BerthPlan x = new BerthPlan(1);
        x.ship(1, 0, 1, 0, 1);
        x.tide(16, 39);
        CHECK.due("not fixed", x.solve(), 0);
        x.fix(0, 0, 7);
        CHECK.due("fixed", x.solve(), 1);
        CHECK.dueBerth("fixed", x, 0, 0, 7);
    }
}
