import java.util.ArrayList;
import java.util.List;

/**
 * The document once more, as plainly as can be: what RandomRunsTest compares BerthPlan with. It looks
 * at every berth of every ship by hour and place and goes on from ship to ship.
 */
final class NaiveModel {
    private static final class Vessel {
        int length;
        int need;
        int time;
        int arrives;
        int weight;
        boolean[] wants = new boolean[8];
        int[] fixed;
        int[] berth;
    }

    private final int places;
    private final int[] depths = {20, 20, 20, 20, 20, 20};
    private final boolean[][] gears = new boolean[6][8];
    private final List<int[]> tides = new ArrayList<>();
    private final List<Vessel> vessels = new ArrayList<>();
    private boolean planned;
    private int[][] best;
    private int bestLateness;

    NaiveModel(int places) {
        this.places = places < 1 ? 1 : places > 6 ? 6 : places;
    }

    private static boolean outside(int number, int least, int most) {
        return number < least || number > most;
    }

    private boolean noShip(int ship) {
        return outside(ship, 0, vessels.size() - 1);
    }

    private boolean noPlace(int place) {
        return outside(place, 0, places - 1);
    }

    private boolean told() {
        planned = false;
        return true;
    }

    int ship(int length, int need, int time, int arrives, int weight) {
        if (outside(length, 1, 6) || outside(need, 0, 100) || outside(time, 1, 24) || outside(arrives, 0, 15)
                || outside(weight, 1, 100)) {
            throw new IllegalArgumentException();
        }
        if (vessels.size() == 4) {
            throw new IllegalStateException();
        }
        Vessel v = new Vessel();
        v.length = length;
        v.need = need;
        v.time = time;
        v.arrives = arrives;
        v.weight = weight;
        vessels.add(v);
        told();
        return vessels.size() - 1;
    }

    boolean depth(int from, int to, int depth) {
        if (noPlace(from) || noPlace(to) || to < from || outside(depth, 0, 100)) {
            return false;
        }
        for (int p = from; p <= to; p++) {
            depths[p] = depth;
        }
        return told();
    }

    boolean gear(int place, int kind, boolean is) {
        if (noPlace(place) || outside(kind, 0, 7) || gears[place][kind] == is) {
            return false;
        }
        gears[place][kind] = is;
        return told();
    }

    boolean wants(int ship, int kind, boolean is) {
        if (noShip(ship) || outside(kind, 0, 7) || vessels.get(ship).wants[kind] == is) {
            return false;
        }
        vessels.get(ship).wants[kind] = is;
        return told();
    }

    boolean tide(int from, int to) {
        if (outside(from, 0, 39) || outside(to, 0, 39) || to < from || tides.size() == 8) {
            return false;
        }
        tides.add(new int[] {from, to});
        return told();
    }

    boolean fix(int ship, int place, int hour) {
        if (noShip(ship) || noPlace(place) || outside(hour, 0, 15)) {
            return false;
        }
        Vessel v = vessels.get(ship);
        if (noPlace(place + v.length - 1)) {
            return false;
        }
        for (Vessel w : vessels) {
            if (w != v && w.fixed != null && meet(v, new int[] {place, hour}, w, w.fixed)) {
                return false;
            }
        }
        v.fixed = new int[] {place, hour};
        return told();
    }

    boolean free(int ship) {
        if (noShip(ship) || vessels.get(ship).fixed == null) {
            return false;
        }
        vessels.get(ship).fixed = null;
        return told();
    }

    int solve() {
        best = null;
        List<List<int[]>> berths = new ArrayList<>();
        for (Vessel v : vessels) {
            berths.add(berthsOf(v));
        }
        search(berths, new int[vessels.size()][], 0, 0);
        planned = best != null;
        for (int i = 0; planned && i < best.length; i++) {
            vessels.get(i).berth = best[i];
        }
        return planned ? 1 : 0;
    }

    int at(int ship, int what) {
        if (noShip(ship) || outside(what, 0, 2)) {
            throw new IndexOutOfBoundsException();
        }
        needPlan();
        Vessel v = vessels.get(ship);
        return what < 2 ? v.berth[what] : v.berth[1] - v.arrives;
    }

    int lateness() {
        needPlan();
        int sum = 0;
        for (Vessel v : vessels) {
            sum += v.weight * (v.berth[1] - v.arrives);
        }
        return sum;
    }

    int bound() {
        int sum = 0;
        for (Vessel v : vessels) {
            List<int[]> berths = berthsOf(v);
            if (berths.isEmpty()) {
                return -1;
            }
            sum += v.weight * (berths.get(0)[1] - v.arrives);
        }
        return sum;
    }

    int why(int ship) {
        if (noShip(ship)) {
            throw new IndexOutOfBoundsException();
        }
        Vessel v = vessels.get(ship);
        if (v.fixed != null) {
            return 0;
        }
        boolean deep = false;
        boolean geared = false;
        boolean timely = false;
        for (int p = 0; p + v.length <= places; p++) {
            deep |= isDeep(v, p);
            geared |= isDeep(v, p) && hasGear(v, p);
        }
        for (int h = v.arrives; h <= 15; h++) {
            timely |= byTide(h);
        }
        return v.length > places ? 1 : !deep ? 2 : !geared ? 3 : !timely ? 4 : 0;
    }

    int change(int ship, int arrives) {
        if (noShip(ship)) {
            throw new IndexOutOfBoundsException();
        }
        if (outside(arrives, 0, 15)) {
            throw new IllegalArgumentException();
        }
        needPlan();
        List<int[]> before = new ArrayList<>();
        for (Vessel v : vessels) {
            before.add(v.berth);
        }
        vessels.get(ship).arrives = arrives;
        if (solve() == 0) {
            return -1;
        }
        int moved = 0;
        for (int i = 0; i < vessels.size(); i++) {
            moved += java.util.Arrays.equals(before.get(i), vessels.get(i).berth) ? 0 : 1;
        }
        return moved;
    }

    int lies(int place, int hour) {
        needPlan();
        if (noPlace(place) || outside(hour, 0, 39)) {
            return -1;
        }
        for (int i = 0; i < vessels.size(); i++) {
            Vessel v = vessels.get(i);
            for (int p = v.berth[0]; p < v.berth[0] + v.length; p++) {
                for (int h = v.berth[1]; h < v.berth[1] + v.time; h++) {
                    if (p == place && h == hour) {
                        return i;
                    }
                }
            }
        }
        return -1;
    }

    long share(int length, int parts, int depth) {
        if (outside(length, 0, 1000000) || outside(parts, 0, 1000000)) {
            throw new IllegalArgumentException();
        }
        long deep = 0;
        for (int p = 0; p < places; p++) {
            deep += depths[p] >= depth ? 1 : 0;
        }
        if (deep == 0) {
            throw new ArithmeticException();
        }
        return (long) length * (long) parts / deep;
    }

    int count(int what) {
        if (what >= 20) {
            return noPlace(what - 20) ? -1 : gearBits(what - 20);
        }
        if (what >= 10) {
            return noPlace(what - 10) ? -1 : depths[what - 10];
        }
        int fixed = 0;
        for (Vessel v : vessels) {
            fixed += v.fixed == null ? 0 : 1;
        }
        int[] counts = {places, vessels.size(), tides.size(), planned ? 1 : 0, fixed};
        return outside(what, 0, 4) ? -1 : counts[what];
    }

    private int gearBits(int place) {
        int bits = 0;
        for (int k = 7; k >= 0; k--) {
            bits = bits * 2 + (gears[place][k] ? 1 : 0);
        }
        return bits;
    }

    private void needPlan() {
        if (!planned) {
            throw new IllegalStateException();
        }
    }

    /** The berths that may be, by hour and then place. */
    private List<int[]> berthsOf(Vessel v) {
        List<int[]> berths = new ArrayList<>();
        for (int h = 0; h <= 15; h++) {
            for (int p = 0; p + v.length <= places; p++) {
                boolean is = v.fixed != null ? v.fixed[0] == p && v.fixed[1] == h
                        : h >= v.arrives && byTide(h) && isDeep(v, p) && hasGear(v, p);
                if (is) {
                    berths.add(new int[] {p, h});
                }
            }
        }
        return berths;
    }

    private boolean byTide(int hour) {
        boolean is = tides.isEmpty();
        for (int[] t : tides) {
            is |= hour >= t[0] && hour <= t[1];
        }
        return is;
    }

    private boolean isDeep(Vessel v, int place) {
        for (int p = place; p < place + v.length; p++) {
            if (depths[p] < v.need) {
                return false;
            }
        }
        return true;
    }

    private boolean hasGear(Vessel v, int place) {
        for (int k = 0; k < 8; k++) {
            boolean has = !v.wants[k];
            for (int p = place; p < place + v.length; p++) {
                has |= gears[p][k];
            }
            if (!has) {
                return false;
            }
        }
        return true;
    }

    private static boolean meet(Vessel v, int[] berth, Vessel w, int[] other) {
        for (int p = berth[0]; p < berth[0] + v.length; p++) {
            if (p >= other[0] && p < other[0] + w.length) {
                for (int h = berth[1]; h < berth[1] + v.time; h++) {
                    if (h >= other[1] && h < other[1] + w.time) {
                        return true;
                    }
                }
            }
        }
        return false;
    }

    /** The first plan met of each lateness is the first by the document's order; only a lesser one replaces it. */
    private void search(List<List<int[]>> berths, int[][] taken, int number, int lateness) {
        if (number == taken.length) {
            if (best == null || lateness < bestLateness) {
                best = taken.clone();
                bestLateness = lateness;
            }
            return;
        }
        // No ship still to come is more than 15 hours ahead, and only fixed ones are ahead at all.
        int ahead = 0;
        for (int i = number; i < taken.length; i++) {
            ahead += vessels.get(i).fixed == null ? 0 : 15 * vessels.get(i).weight;
        }
        Vessel v = vessels.get(number);
        for (int[] berth : berths.get(number)) {
            boolean open = best == null || lateness - ahead < bestLateness;
            for (int i = 0; open && i < number; i++) {
                open = !meet(v, berth, vessels.get(i), taken[i]);
            }
            if (open) {
                taken[number] = berth;
                search(berths, taken, number + 1, lateness + v.weight * (berth[1] - v.arrives));
            }
        }
    }
}
