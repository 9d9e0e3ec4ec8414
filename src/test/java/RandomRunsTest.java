import java.util.Random;

/** Runs of random calls, always the same ones, each answer compared with that of NaiveModel. */
public final class RandomRunsTest {
    private static final int RUNS = 8000;
    /** An object is used for at most 512 calls: behind these enough are left for a step more and a last look. */
    private static final int CALLS = 400;
    private static final int[] ODD = {Integer.MIN_VALUE, Integer.MIN_VALUE + 10, -1, 101, 1000001, Integer.MAX_VALUE};

    private final Check check = new Check("Random runs");
    private final Random random = new Random(20261115);
    private BerthPlan x;
    private NaiveModel y;
    private int run;
    private int calls;

    public static void main(String[] args) {
        RandomRunsTest test = new RandomRunsTest();
        for (test.run = 1; test.run <= RUNS && test.check.wrong() < 20; test.run++) {
            test.oneRun();
        }
        test.check.end();
    }

    private void oneRun() {
        int places = between(-1, 8);
        x = new BerthPlan(places);
        y = new NaiveModel(places);
        calls = 0;
        // Runs of one kind have like ships, so that many plans are as late as one another.
        boolean alike = random.nextInt(3) == 0;
        while (calls <= CALLS) {
            tell(alike);
            if (random.nextInt(3) == 0) {
                solveAndLook();
            } else {
                ask();
            }
        }
        lookAtAll();
        check.due("run " + run + " keeps to 512 calls", calls <= 512, true);
    }

    private int between(int least, int most) {
        return least + random.nextInt(most - least + 1);
    }

    /** Mostly within the bounds, at times just outside or far off. */
    private int about(int least, int most) {
        int kind = random.nextInt(60);
        if (kind == 0) {
            return ODD[random.nextInt(ODD.length)];
        }
        return kind == 1 ? least - 1 : kind == 2 ? most + 1 : between(least, most);
    }

    private void same(String call, Check.Call got, Check.Call want) {
        calls++;
        check.dueText("run " + run + ": " + call, Check.outcome(got), Check.outcome(want));
    }

    private static long of(boolean is) {
        return is ? 1 : 0;
    }

    private void tell(boolean alike) {
        int a = about(0, 5);
        int b = about(0, 7);
        boolean is = random.nextInt(3) > 0;
        switch (random.nextInt(10)) {
            case 0, 1, 2 -> tellShip(alike);
            case 3 -> tellDepth();
            case 4 -> same("gear", () -> of(x.gear(a, b & 3, is)), () -> of(y.gear(a, b & 3, is)));
            case 5 -> same("gear", () -> of(x.gear(a, b, is)), () -> of(y.gear(a, b, is)));
            case 6 -> tellWants();
            case 7 -> tellTide();
            case 8 -> tellFix();
            default -> {
                int ship = about(0, 3);
                same("free " + ship, () -> of(x.free(ship)), () -> of(y.free(ship)));
            }
        }
    }

    private void tellShip(boolean alike) {
        int length = about(1, random.nextInt(3) == 0 ? 6 : 3);
        int need = random.nextInt(4) == 0 ? about(0, 100) : about(0, 20);
        int time = about(1, random.nextInt(3) == 0 ? 24 : 8);
        int arrives = about(0, alike ? 1 : random.nextInt(3) == 0 ? 15 : 5);
        int weight = about(1, alike ? 2 : 100);
        same("ship", () -> x.ship(length, need, time, arrives, weight),
                () -> y.ship(length, need, time, arrives, weight));
    }

    private void tellDepth() {
        int from = about(0, 5);
        int to = random.nextBoolean() ? from : about(0, 5);
        int depth = about(0, 100);
        same("depth", () -> of(x.depth(from, to, depth)), () -> of(y.depth(from, to, depth)));
    }

    private void tellWants() {
        int ship = about(0, 3);
        int kind = about(0, 7) & 3;
        boolean is = random.nextInt(3) == 0;
        same("wants", () -> of(x.wants(ship, kind, is)), () -> of(y.wants(ship, kind, is)));
    }

    private void tellTide() {
        int from = about(0, random.nextBoolean() ? 39 : 15);
        int to = random.nextBoolean() ? from + random.nextInt(4) : about(0, 39);
        same("tide", () -> of(x.tide(from, to)), () -> of(y.tide(from, to)));
    }

    private void tellFix() {
        int ship = about(0, 3);
        int place = about(0, 5);
        int hour = about(0, 15);
        same("fix", () -> of(x.fix(ship, place, hour)), () -> of(y.fix(ship, place, hour)));
    }

    private void ask() {
        int a = about(0, 6);
        int b = about(0, 39);
        int c = about(0, 100);
        same("lies", () -> x.lies(a, b), () -> y.lies(a, b));
        same("at", () -> x.at(a, b), () -> y.at(a, b));
        same("why", () -> x.why(a), () -> y.why(a));
        same("count", () -> x.count(b), () -> y.count(b));
        same("share", () -> x.share(c * 9999, b * 25641, c), () -> y.share(c * 9999, b * 25641, c));
        same("bound", () -> x.bound(), () -> y.bound());
        same("lateness", () -> x.lateness(), () -> y.lateness());
    }

    private void solveAndLook() {
        same("solve", () -> x.solve(), () -> y.solve());
        lookAtPlan();
        int ship = about(0, 3);
        int arrives = about(0, 15);
        same("change", () -> x.change(ship, arrives), () -> y.change(ship, arrives));
        lookAtPlan();
    }

    private void lookAtPlan() {
        for (int i = 0; i < 4; i++) {
            int ship = i;
            same("place of " + ship, () -> x.at(ship, 0), () -> y.at(ship, 0));
            same("hour of " + ship, () -> x.at(ship, 1), () -> y.at(ship, 1));
        }
        same("lateness", () -> x.lateness(), () -> y.lateness());
        same("plan", () -> x.count(3), () -> y.count(3));
    }

    private void lookAtAll() {
        for (int i = 0; i < 5; i++) {
            int ship = i;
            for (int k = 0; k < 4; k++) {
                int what = k;
                same("at(" + ship + ", " + what + ")", () -> x.at(ship, what), () -> y.at(ship, what));
            }
            same("why(" + ship + ")", () -> x.why(ship), () -> y.why(ship));
        }
        for (int i = -1; i < 28; i++) {
            int what = i;
            same("count(" + what + ")", () -> x.count(what), () -> y.count(what));
        }
        same("lateness", () -> x.lateness(), () -> y.lateness());
        same("bound", () -> x.bound(), () -> y.bound());
        for (int p = -1; p < 7; p++) {
            int place = p;
            int hour = between(-1, 40);
            same("lies(" + place + ", " + hour + ")", () -> x.lies(place, hour), () -> y.lies(place, hour));
        }
    }
}
