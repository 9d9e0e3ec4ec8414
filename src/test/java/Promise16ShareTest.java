/**
 * Promise 16: a length's share of the quay in parts: length * parts / places that are at least so deep.
 * IllegalArgumentException if length or parts are not 0 .. 1000000; ArithmeticException if there are none.
 */
public final class Promise16ShareTest {
    private static final Check CHECK = new Check("Promise 16, share");

    public static void main(String[] args) {
        ordinary();
        withoutARest();
        leastAndGreatestTaken();
        beyondAnInt();
        lengthsJustOutsideRefused();
        partsJustOutsideRefused();
        asDeepAndOneLess();
        anyDepthMayBeAsked();
        noneSoDeepRefused();
        onlyPlacesOfTheQuayCount();
        lengthAndPartsAreToldFirst();
        askingChangesNothing();
        CHECK.end();
    }

    private static void dueShare(BerthPlan x, int length, int parts, int depth, long want) {
        CHECK.due("share(" + length + ", " + parts + ", " + depth + ")", x.share(length, parts, depth), want);
    }

    private static void dueArgument(BerthPlan x, int length, int parts, int depth) {
        CHECK.dueThrows("share(" + length + ", " + parts + ", " + depth + ")", Check.ARGUMENT,
                () -> x.share(length, parts, depth));
    }

    private static void dueArithmetic(BerthPlan x, int length, int parts, int depth) {
        CHECK.dueThrows("share(" + length + ", " + parts + ", " + depth + ")", Check.ARITHMETIC,
                () -> x.share(length, parts, depth));
    }

    private static void ordinary() {
        BerthPlan x = new BerthPlan(6);
        x.depth(0, 2, 50);
        dueShare(x, 10, 3, 20, 5);
        dueShare(x, 10, 3, 50, 10);
        x.depth(5, 5, 0);
        dueShare(x, 10, 3, 20, 6);
    }

    private static void withoutARest() {
        BerthPlan x = new BerthPlan(6);
        dueShare(x, 5, 1, 20, 0);
        dueShare(x, 6, 1, 20, 1);
        dueShare(x, 11, 1, 20, 1);
        dueShare(x, 4, 3, 20, 2);
        dueShare(x, 1, 1, 20, 0);
    }

    private static void leastAndGreatestTaken() {
        BerthPlan x = new BerthPlan(1);
        dueShare(x, 0, 0, 20, 0);
        dueShare(x, 0, 1000000, 20, 0);
        dueShare(x, 1000000, 0, 20, 0);
        dueShare(x, 1000000, 1, 20, 1000000);
        dueShare(x, 1, 1000000, 20, 1000000);
        dueShare(x, 1000000, 1000000, 20, 1000000000000L);
    }

    private static void beyondAnInt() {
        BerthPlan x = new BerthPlan(6);
        dueShare(x, 1000000, 1000000, 20, 166666666666L);
        dueShare(x, 46341, 46341, 20, 357914713L);
        dueShare(x, 65536, 65536, 20, 715827882L);
        BerthPlan y = new BerthPlan(1);
        dueShare(y, 46341, 46341, 20, 2147488281L);
        dueShare(y, 65536, 65536, 20, 4294967296L);
    }

    private static void lengthsJustOutsideRefused() {
        BerthPlan x = new BerthPlan(3);
        dueArgument(x, -1, 1, 20);
        dueArgument(x, 1000001, 1, 20);
        dueArgument(x, -1, 0, 20);
        dueArgument(x, 1000001, 0, 20);
        for (int length : new int[] {Integer.MIN_VALUE, Integer.MAX_VALUE}) {
            dueArgument(x, length, 1, 20);
        }
    }

    private static void partsJustOutsideRefused() {
        BerthPlan x = new BerthPlan(3);
        dueArgument(x, 1, -1, 20);
        dueArgument(x, 1, 1000001, 20);
        dueArgument(x, 0, -1, 20);
        dueArgument(x, 0, 1000001, 20);
        dueArgument(x, -1, -1, 20);
        for (int parts : new int[] {Integer.MIN_VALUE, Integer.MAX_VALUE}) {
            dueArgument(x, 1, parts, 20);
        }
    }

    private static void asDeepAndOneLess() {
        BerthPlan x = new BerthPlan(4);
        x.depth(0, 0, 41);
        x.depth(1, 1, 40);
        x.depth(2, 2, 39);
        dueShare(x, 12, 1, 39, 4);
        dueShare(x, 12, 1, 40, 6);
        dueShare(x, 12, 1, 41, 12);
        dueArithmetic(x, 12, 1, 42);
    }

    /** The document bounds length and parts alone: any depth is one to be asked for. */
    private static void anyDepthMayBeAsked() {
        BerthPlan x = new BerthPlan(3);
        x.depth(0, 2, 0);
        dueShare(x, 9, 1, 0, 3);
        dueShare(x, 9, 1, -1, 3);
        dueShare(x, 9, 1, Integer.MIN_VALUE, 3);
        dueArithmetic(x, 9, 1, 1);
        x.depth(1, 1, 100);
        dueShare(x, 9, 1, 100, 9);
        dueArithmetic(x, 9, 1, 101);
        dueArithmetic(x, 9, 1, Integer.MAX_VALUE);
    }

    private static void noneSoDeepRefused() {
        for (int places = 1; places <= 6; places++) {
            BerthPlan x = new BerthPlan(places);
            dueShare(x, 60, 1, 20, 60 / places);
            dueArithmetic(x, 60, 1, 21);
            dueArithmetic(x, 0, 0, 21);
            dueArithmetic(x, 1000000, 1000000, 21);
            x.depth(places - 1, places - 1, 21);
            dueShare(x, 60, 1, 21, 60);
        }
    }

    private static void onlyPlacesOfTheQuayCount() {
        for (int places = 1; places <= 6; places++) {
            dueShare(new BerthPlan(places), 60, 7, 0, 420 / places);
        }
    }

    private static void lengthAndPartsAreToldFirst() {
        BerthPlan x = new BerthPlan(2);
        dueArgument(x, -1, 1, 21);
        dueArgument(x, 1000001, 1, 21);
        dueArgument(x, 1, -1, 21);
        dueArgument(x, 1, 1000001, 21);
        dueArithmetic(x, 0, 1000000, 21);
        dueArithmetic(x, 1000000, 0, 21);
    }

    private static void askingChangesNothing() {
        int[][] asked = {{5, 5, 0}, {-1, 1, 0}, {1000001, 1, 0}, {1, -1, 0}, {1, 1000001, 0}, {1, 1, 101}};
        for (int[] a : asked) {
            Unchanged.due(CHECK, "share(" + a[0] + ", " + a[1] + ", " + a[2] + ")",
                    x -> x.share(a[0], a[1], a[2]), Quays.values());
        }
    }
}
