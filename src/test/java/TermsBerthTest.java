import java.util.function.Consumer;

/**
 * Terms: a BERTH takes as many places as the ship's LENGTH, for as many hours as its TIME. It MAY BE if all
 * of these places are of the quay, of a DEPTH not below its NEED, and all together have each kind of GEAR it
 * wants; the hour is not ahead of its arrival, not above 15, and by TIDE; a FIXED ship has just the berth it
 * was fixed to (whatever its arrival, depth, gear and tide).
 */
public final class TermsBerthTest {
    private static final Check CHECK = new Check("Terms, a berth");

    public static void main(String[] args) {
        placesAndHoursItTakes();
        allPlacesAreOfTheQuay();
        eachPlaceIsDeepEnough();
        eachKindAtOnePlaceAtLeast();
        kindsAtSeveralPlacesTogether();
        eachOfManyKindsIsWanted();
        gearThatIsNotWantedIsNoHarm();
        depthAndGearAtTheSameRow();
        notAheadOfItsArrival();
        notAboveFifteen();
        fixedWhateverItsArrival();
        fixedWhateverTheDepth();
        fixedWhateverTheGear();
        fixedWhateverTheTide();
        fixedHasNoOtherBerth();
        CHECK.end();
    }

    /** For each of the places whether ship 0 may lie from there on: an x, or a point if not. */
    private static void dueRows(String run, int places, int length, int need, String want,
            Consumer<BerthPlan> more) {
        StringBuilder seen = new StringBuilder();
        for (int place = 0; place < places; place++) {
            BerthPlan x = new BerthPlan(places);
            x.ship(length, need, 1, 0, 1);
            x.tide(0, 0);
            more.accept(x);
            seen.append(mayLieFrom(x, place) ? 'x' : '.');
        }
        CHECK.dueText(run, seen.toString(), want);
    }

    /** In its only hour ship 0 comes to this place, if it can, when all places ahead of it are taken. */
    private static boolean mayLieFrom(BerthPlan x, int place) {
        if (place > 0) {
            int other = x.ship(place, 0, 1, 0, 1);
            x.fix(other, 0, 0);
        }
        return x.solve() == 1 && x.at(0, 0) == place;
    }

    private static void placesAndHoursItTakes() {
        for (int length = 1; length <= 6; length++) {
            for (int time = 1; time <= 24; time++) {
                BerthPlan x = new BerthPlan(6);
                x.ship(length, 0, time, 3, 1);
                x.solve();
                CHECK.due("its last place and hour", x.lies(length - 1, 3 + time - 1), 0);
                CHECK.due("the place behind", x.lies(length, 3), BerthPlan.NONE);
                CHECK.due("the hour behind", x.lies(0, 3 + time), BerthPlan.NONE);
                CHECK.due("the hour ahead", x.lies(0, 2), BerthPlan.NONE);
            }
        }
    }

    private static void allPlacesAreOfTheQuay() {
        String[] rows = {"xxxx", "xxx.", "xx..", "x...", "....", "...."};
        for (int length = 1; length <= 6; length++) {
            dueRows("length " + length, 4, length, 0, rows[length - 1], x -> { });
        }
        dueRows("length 6 of 6", 6, 6, 0, "x.....", x -> { });
        dueRows("length 5 of 6", 6, 5, 0, "xx....", x -> { });
        dueRows("length 1 of 1", 1, 1, 0, "x", x -> { });
        dueRows("length 2 of 1", 1, 2, 0, ".", x -> { });
    }

    private static void eachPlaceIsDeepEnough() {
        dueRows("as deep as its need", 6, 2, 20, "xxxxx.", x -> { });
        dueRows("one less deep than its need", 6, 2, 21, "......", x -> { });
        dueRows("one place one less deep", 6, 2, 20, "x..xx.", x -> x.depth(2, 2, 19));
        dueRows("one place one less deep", 6, 3, 20, "...x..", x -> x.depth(2, 2, 19));
        dueRows("the first place one less deep", 6, 2, 20, ".xxxx.", x -> x.depth(0, 0, 19));
        dueRows("the last place one less deep", 6, 2, 20, "xxxx..", x -> x.depth(5, 5, 19));
        dueRows("three places as deep", 6, 2, 60, ".xx...", x -> x.depth(1, 3, 60));
        dueRows("need 0 by depth 0", 6, 2, 0, "xxxxx.", x -> x.depth(0, 5, 0));
        dueRows("need 1 by depth 0", 6, 2, 1, "......", x -> x.depth(0, 5, 0));
        dueRows("need 100 by depth 100", 6, 6, 100, "x.....", x -> x.depth(0, 5, 100));
    }

    private static void eachKindAtOnePlaceAtLeast() {
        for (int kind = 0; kind < 8; kind++) {
            int wanted = kind;
            dueRows("kind " + kind + " nowhere", 6, 2, 0, "......", x -> x.wants(0, wanted, true));
            dueRows("kind " + kind + " at a place", 6, 2, 0, ".xx...", x -> {
                x.wants(0, wanted, true);
                x.gear(2, wanted, true);
            });
            dueRows("kind " + kind + " at the last place", 6, 1, 0, ".....x", x -> {
                x.wants(0, wanted, true);
                x.gear(5, wanted, true);
            });
            dueRows("another kind at a place", 6, 2, 0, "......", x -> {
                x.wants(0, wanted, true);
                x.gear(2, 7 - wanted, true);
            });
        }
    }

    private static void kindsAtSeveralPlacesTogether() {
        dueRows("two kinds, one place between", 6, 3, 0, ".x....", x -> {
            x.wants(0, 0, true);
            x.wants(0, 7, true);
            x.gear(1, 0, true);
            x.gear(3, 7, true);
        });
        dueRows("two kinds, the row one place too short", 6, 2, 0, "......", x -> {
            x.wants(0, 0, true);
            x.wants(0, 7, true);
            x.gear(1, 0, true);
            x.gear(3, 7, true);
        });
        dueRows("two kinds at one place", 6, 2, 0, "..xx..", x -> {
            x.wants(0, 0, true);
            x.wants(0, 7, true);
            x.gear(3, 0, true);
            x.gear(3, 7, true);
        });
    }

    private static void eachOfManyKindsIsWanted() {
        for (int missing = -1; missing < 8; missing++) {
            int left = missing;
            dueRows("all kinds but " + missing, 6, 6, 0, missing < 0 ? "x....." : "......", x -> {
                for (int kind = 0; kind < 8; kind++) {
                    x.wants(0, kind, true);
                    x.gear(kind % 6, kind, kind != left);
                }
            });
        }
    }

    private static void gearThatIsNotWantedIsNoHarm() {
        dueRows("all kinds at a place, none wanted", 4, 1, 0, "xxxx", x -> {
            for (int kind = 0; kind < 8; kind++) {
                x.gear(1, kind, true);
            }
        });
    }

    private static void depthAndGearAtTheSameRow() {
        dueRows("gear where it is not deep", 6, 2, 30, "......", x -> {
            x.depth(0, 2, 30);
            x.wants(0, 1, true);
            x.gear(3, 1, true);
        });
        dueRows("gear at the last deep place", 6, 2, 30, ".x....", x -> {
            x.depth(0, 2, 30);
            x.wants(0, 1, true);
            x.gear(2, 1, true);
        });
    }

    private static void notAheadOfItsArrival() {
        for (int arrives = 1; arrives <= 15; arrives++) {
            BerthPlan x = new BerthPlan(1);
            x.ship(1, 0, 1, arrives, 1);
            x.tide(0, arrives - 1);
            CHECK.due("solve by a tide to the hour ahead of " + arrives, x.solve(), 0);
            x.tide(arrives, arrives);
            CHECK.due("solve by a tide at " + arrives, x.solve(), 1);
            CHECK.dueBerth("at its arrival", x, 0, 0, arrives);
        }
    }

    private static void notAboveFifteen() {
        BerthPlan x = new BerthPlan(1);
        x.ship(1, 0, 1, 15, 1);
        x.ship(1, 0, 1, 0, 1);
        x.fix(1, 0, 14);
        CHECK.due("the hour ahead of 15 is taken", x.solve(), 1);
        CHECK.dueBerth("at 15", x, 0, 0, 15);
        x.fix(1, 0, 15);
        CHECK.due("the hour 15 is taken", x.solve(), 0);
        CHECK.due("alone it can", x.why(0), 0);
    }

    private static void dueFixed(String run, BerthPlan x, int place, int hour) {
        CHECK.due(run + ": solve", x.solve(), 1);
        CHECK.dueBerth(run, x, 0, place, hour);
        CHECK.due(run + ": why", x.why(0), 0);
    }

    private static void fixedWhateverItsArrival() {
        BerthPlan x = new BerthPlan(2);
        x.ship(1, 0, 1, 15, 1);
        x.fix(0, 1, 0);
        dueFixed("15 hours ahead of its arrival", x, 1, 0);
    }

    private static void fixedWhateverTheDepth() {
        BerthPlan x = new BerthPlan(2);
        x.ship(1, 100, 1, 0, 1);
        x.fix(0, 1, 3);
        x.depth(0, 0, 100);
        x.depth(1, 1, 0);
        dueFixed("not deep enough", x, 1, 3);
    }

    private static void fixedWhateverTheGear() {
        BerthPlan x = new BerthPlan(2);
        x.ship(1, 0, 1, 0, 1);
        x.fix(0, 1, 3);
        x.wants(0, 6, true);
        x.gear(0, 6, true);
        dueFixed("without its gear", x, 1, 3);
    }

    private static void fixedWhateverTheTide() {
        BerthPlan x = new BerthPlan(2);
        x.ship(1, 0, 1, 0, 1);
        x.fix(0, 1, 3);
        x.tide(0, 2);
        x.tide(4, 39);
        dueFixed("at an hour not by the tide", x, 1, 3);
    }

    private static void fixedHasNoOtherBerth() {
        BerthPlan x = new BerthPlan(2);
        x.ship(1, 0, 1, 0, 100);
        x.ship(2, 0, 24, 0, 1);
        x.fix(0, 1, 15);
        CHECK.due("the other one has no hours left", x.solve(), 0);
        x.fix(0, 1, 0);
        CHECK.due("the other one has its hours", x.solve(), 1);
        CHECK.dueBerth("fixed", x, 0, 1, 0);
        CHECK.dueBerth("behind the fixed one", x, 1, 0, 1);
    }
}
