/**
 * Berths at a quay for a few ships: which of them may lie where and when, and the plan of least
 * weighted lateness, found exactly.
 */
public final class BerthPlan {
    public static final int NONE = -1;

    private static final int MOST_PLACES = 6;
    private static final int MOST_SHIPS = 4;
    private static final int MOST_SPANS = 8;
    private static final int KINDS = 8;
    private static final int MOST_DEPTH = 100;
    private static final int DEPTH_AT_FIRST = 20;
    private static final int MOST_TIME = 24;
    private static final int MOST_WEIGHT = 100;
    private static final int MOST_SHARED = 1000000;
    private static final int LAST_HOUR = 39;
    /** The last hour at which a ship may begin: with the longest time it ends within LAST_HOUR. */
    private static final int LAST_BEGIN = 15;
    /** Above the lateness of every plan, which is 4 * 100 * 15 at most. */
    private static final int NO_PLAN = 100000;
    /** So far above NO_PLAN that ships which come ahead can't bring a sum with it below that. */
    private static final int NO_BERTH = 1000000;

    private static final int WHAT_DEPTH = 10;
    private static final int WHAT_GEAR = 20;

    private final Quay quay;
    private final Ship[] ships;
    private final Search search;
    private int shipCount;
    private boolean planned;

    public BerthPlan(int places) {
        quay = new Quay(Math.max(1, Math.min(places, MOST_PLACES)));
        ships = new Ship[MOST_SHIPS];
        // All at once, so that no element is ever null.
        for (int i = 0; i < MOST_SHIPS; i++) {
            ships[i] = new Ship();
        }
        search = new Search();
    }

    public int ship(int length, int need, int time, int arrives, int weight)
            throws IllegalArgumentException, IllegalStateException {
        boolean sizeCanBe = isWithin(length, 1, MOST_PLACES) && isWithin(need, 0, MOST_DEPTH);
        boolean stayCanBe = isWithin(time, 1, MOST_TIME) && isWithin(arrives, 0, LAST_BEGIN);
        if (!sizeCanBe || !stayCanBe || !isWithin(weight, 1, MOST_WEIGHT)) {
            throw new IllegalArgumentException("a ship's numbers can't be");
        }
        if (shipCount >= MOST_SHIPS) {
            throw new IllegalStateException("there are 4 ships");
        }
        Ship added = ships[shipCount];
        added.length = length;
        added.need = need;
        added.time = time;
        added.arrives = arrives;
        added.weight = weight;
        planned = false;
        return shipCount++;
    }

    public boolean depth(int from, int to, int depth) {
        if (!quay.isPlace(from) || !quay.isPlace(to) || from > to || !isWithin(depth, 0, MOST_DEPTH)) {
            return false;
        }
        for (int place = from; place <= to; place++) {
            quay.depths[place] = depth;
        }
        planned = false;
        return true;
    }

    public boolean gear(int place, int kind, boolean is) {
        if (!quay.isPlace(place) || !isKind(kind) || hasBit(quay.gears[place], kind) == is) {
            return false;
        }
        quay.gears[place] ^= 1 << kind;
        planned = false;
        return true;
    }

    public boolean wants(int ship, int kind, boolean is) {
        if (!isShip(ship) || !isKind(kind) || hasBit(ships[ship].wanted, kind) == is) {
            return false;
        }
        ships[ship].wanted ^= 1 << kind;
        planned = false;
        return true;
    }

    public boolean tide(int from, int to) {
        boolean areHours = isWithin(from, 0, LAST_HOUR) && isWithin(to, 0, LAST_HOUR);
        if (!areHours || from > to || quay.tideSpans >= MOST_SPANS) {
            return false;
        }
        quay.tideHours |= beginsBetween(from, to);
        quay.tideSpans++;
        planned = false;
        return true;
    }

    public boolean fix(int ship, int place, int hour) {
        if (!isShip(ship) || !isWithin(hour, 0, LAST_BEGIN)) {
            return false;
        }
        Ship fixing = ships[ship];
        if (!quay.isRow(place, fixing.length) || meetsFixed(ship, place, hour)) {
            return false;
        }
        fixing.isFixed = true;
        fixing.fixedPlace = place;
        fixing.fixedHour = hour;
        planned = false;
        return true;
    }

    public boolean free(int ship) {
        if (!isShip(ship) || !ships[ship].isFixed) {
            return false;
        }
        ships[ship].isFixed = false;
        planned = false;
        return true;
    }

    public int solve() {
        planned = search.finds(quay, ships, shipCount);
        if (!planned) {
            return 0;
        }
        moveShips();
        return 1;
    }

    public int at(int ship, int what) throws IndexOutOfBoundsException, IllegalStateException {
        if (!isShip(ship) || !isWithin(what, 0, 2)) {
            throw new IndexOutOfBoundsException("no such ship or what");
        }
        if (!planned) {
            throw new IllegalStateException("there is no plan");
        }
        Ship asked = ships[ship];
        if (what == 0) {
            return asked.place;
        }
        return what == 1 ? asked.hour : asked.hour - asked.arrives;
    }

    public int lateness() throws IllegalStateException {
        if (!planned) {
            throw new IllegalStateException("there is no plan");
        }
        int sum = 0;
        for (int i = 0; i < shipCount; i++) {
            sum += ships[i].latenessIf(ships[i].hour);
        }
        return sum;
    }

    public int bound() {
        int least = search.leastAlone(quay, ships, shipCount);
        return least >= NO_BERTH ? NONE : least;
    }

    public int why(int ship) throws IndexOutOfBoundsException {
        if (!isShip(ship)) {
            throw new IndexOutOfBoundsException("no such ship");
        }
        Ship asked = ships[ship];
        if (asked.isFixed) {
            return 0;
        }
        if (asked.length > quay.places) {
            return 1;
        }
        if (!quay.hasRow(asked.length, asked.need, 0)) {
            return 2;
        }
        if (!quay.hasRow(asked.length, asked.need, asked.wanted)) {
            return 3;
        }
        return quay.beginsFrom(asked.arrives) == 0 ? 4 : 0;
    }

    public int change(int ship, int arrives)
            throws IndexOutOfBoundsException, IllegalArgumentException, IllegalStateException {
        if (!isShip(ship)) {
            throw new IndexOutOfBoundsException("no such ship");
        }
        if (!isWithin(arrives, 0, LAST_BEGIN)) {
            throw new IllegalArgumentException("no ship can arrive at this hour");
        }
        if (!planned) {
            throw new IllegalStateException("there is no plan");
        }
        ships[ship].arrives = arrives;
        planned = search.finds(quay, ships, shipCount);
        return planned ? moveShips() : -1;
    }

    public int lies(int place, int hour) throws IllegalStateException {
        if (!planned) {
            throw new IllegalStateException("there is no plan");
        }
        for (int i = 0; i < shipCount; i++) {
            Ship lying = ships[i];
            // A ship's berth lies within the quay and its hours, so what is outside is no ship's.
            if (isSpanAt(lying.place, lying.length, place) && isSpanAt(lying.hour, lying.time, hour)) {
                return i;
            }
        }
        return NONE;
    }

    public long share(int length, int parts, int depth) throws IllegalArgumentException, ArithmeticException {
        if (!isWithin(length, 0, MOST_SHARED) || !isWithin(parts, 0, MOST_SHARED)) {
            throw new IllegalArgumentException("length or parts are not 0 .. 1000000");
        }
        int deep = quay.placesOf(depth);
        if (deep == 0) {
            throw new ArithmeticException("no place is so deep");
        }
        return (long) length * parts / deep;
    }

    public int count(int what) {
        switch (what) {
            case 0:
                return quay.places;
            case 1:
                return shipCount;
            case 2:
                return quay.tideSpans;
            case 3:
                return planned ? 1 : 0;
            case 4:
                return fixedShips();
            default:
                return countOfPlace(what);
        }
    }

    private int countOfPlace(int what) {
        if (isWithin(what, WHAT_DEPTH, WHAT_DEPTH + quay.places - 1)) {
            return quay.depths[what - WHAT_DEPTH];
        }
        if (isWithin(what, WHAT_GEAR, WHAT_GEAR + quay.places - 1)) {
            return quay.gears[what - WHAT_GEAR];
        }
        return NONE;
    }

    private int fixedShips() {
        int fixed = 0;
        for (int i = 0; i < shipCount; i++) {
            if (ships[i].isFixed) {
                fixed++;
            }
        }
        return fixed;
    }

    private boolean isShip(int ship) {
        return ship >= 0 && ship < shipCount;
    }

    private boolean meetsFixed(int ship, int place, int hour) {
        Ship fixing = ships[ship];
        for (int i = 0; i < shipCount; i++) {
            Ship other = ships[i];
            // A ship that is fixed anew leaves its own earlier berth.
            if (i != ship && other.isFixed
                    && spansMeet(place, fixing.length, other.fixedPlace, other.length)
                    && spansMeet(hour, fixing.time, other.fixedHour, other.time)) {
                return true;
            }
        }
        return false;
    }

    /** Brings the ships to the plan that was found: how many have another berth than before. */
    private int moveShips() {
        int moved = 0;
        for (int i = 0; i < shipCount; i++) {
            if (ships[i].moveTo(search.bestPlaces[i], search.bestHours[i])) {
                moved++;
            }
        }
        return moved;
    }

    private static boolean isWithin(int number, int least, int most) {
        return number >= least && number <= most;
    }

    private static boolean isKind(int kind) {
        return kind >= 0 && kind < KINDS;
    }

    private static boolean hasBit(int bits, int bit) {
        return ((bits >> bit) & 1) != 0;
    }

    private static boolean isSpanAt(int from, int length, int point) {
        return point >= from && point < from + length;
    }

    private static boolean spansMeet(int from, int length, int otherFrom, int otherLength) {
        return from < otherFrom + otherLength && otherFrom < from + length;
    }

    /** The hours from one to another, as bits: of them those alone at which a ship may begin. */
    private static int beginsBetween(int from, int to) {
        int first = from > 0 ? from : 0;
        int last = to < LAST_BEGIN ? to : LAST_BEGIN;
        return first > last ? 0 : ((1 << (last - first + 1)) - 1) << first;
    }

    /** The places with their depth and gear, and the tide. */
    private static final class Quay {
        final int places;
        final int[] depths;
        final int[] gears;
        /** Bits of the hours 0 .. 15; spans are never taken back, so that their union is enough. */
        int tideHours;
        int tideSpans;

        Quay(int places) {
            this.places = places;
            depths = new int[MOST_PLACES];
            gears = new int[MOST_PLACES];
            for (int i = 0; i < MOST_PLACES; i++) {
                depths[i] = DEPTH_AT_FIRST;
            }
        }

        boolean isPlace(int place) {
            return place >= 0 && place < places;
        }

        boolean isRow(int place, int length) {
            return place >= 0 && place <= places - length;
        }

        int placesOf(int depth) {
            int deep = 0;
            for (int place = 0; place < places; place++) {
                if (depths[place] >= depth) {
                    deep++;
                }
            }
            return deep;
        }

        boolean suits(int from, int length, int need, int wanted) {
            if (!isRow(from, length)) {
                return false;
            }
            int missing = wanted;
            for (int place = from; place < from + length; place++) {
                if (depths[place] < need) {
                    return false;
                }
                missing &= ~gears[place];
            }
            return missing == 0;
        }

        boolean hasRow(int length, int need, int wanted) {
            for (int place = 0; place < places; place++) {
                if (suits(place, length, need, wanted)) {
                    return true;
                }
            }
            return false;
        }

        /** Bits of the hours, from one on, at which the tide lets a ship begin. */
        int beginsFrom(int hour) {
            int begins = beginsBetween(hour, LAST_BEGIN);
            return tideSpans == 0 ? begins : begins & tideHours;
        }
    }

    private static final class Ship {
        int length;
        int need;
        int time;
        int arrives;
        int weight;
        int wanted;
        boolean isFixed;
        int fixedPlace;
        int fixedHour;
        /** The berth by the last plan. */
        int place;
        int hour;

        int latenessIf(int begin) {
            return weight * (begin - arrives);
        }

        /** Bits of the hours at which this ship may begin at a place, if it were alone. */
        int beginsAt(int from, Quay quay) {
            if (isFixed) {
                return from == fixedPlace ? 1 << fixedHour : 0;
            }
            return quay.suits(from, length, need, wanted) ? quay.beginsFrom(arrives) : 0;
        }

        boolean moveTo(int newPlace, int newHour) {
            boolean isOther = place != newPlace || hour != newHour;
            place = newPlace;
            hour = newHour;
            return isOther;
        }
    }

    /**
     * The search for the plan. In a plan of least lateness no ship that is not fixed could come sooner
     * at its place, as every weight is above 0. So, the ships taken in the order in which they begin,
     * each begins at the first hour that those before it leave open at its place (those behind it
     * that share a place begin when it has left): orders and places have to be tried, hours have not.
     */
    private static final class Search {
        /** By level, ship and place: bits of the hours open to the ship once so many others lie. */
        final int[] begins = new int[MOST_SHIPS * MOST_SHIPS * MOST_PLACES];
        final int[] triedPlaces = new int[MOST_SHIPS];
        final int[] triedHours = new int[MOST_SHIPS];
        final int[] bestPlaces = new int[MOST_SHIPS];
        final int[] bestHours = new int[MOST_SHIPS];
        Ship[] ships = new Ship[0];
        int shipCount;
        int places;
        int best;

        /** Whether there is a plan; THE PLAN is in bestPlaces and bestHours then. */
        boolean finds(Quay quay, Ship[] told, int toldCount) {
            openAll(quay, told, toldCount);
            best = NO_PLAN;
            if (leastOf(everyShip()) < NO_BERTH) {
                berthRest(everyShip(), 0, NONE);
            }
            return best < NO_PLAN;
        }

        /** The least sum of lateness, each ship alone; NO_BERTH if one of them can't be. */
        int leastAlone(Quay quay, Ship[] told, int toldCount) {
            openAll(quay, told, toldCount);
            return leastOf(everyShip());
        }

        private void openAll(Quay quay, Ship[] told, int toldCount) {
            ships = told;
            shipCount = Math.min(toldCount, told.length);
            places = quay.places;
            for (int i = 0; i < shipCount; i++) {
                for (int place = 0; place < places; place++) {
                    begins[index(0, i, place)] = ships[i].beginsAt(place, quay);
                }
            }
        }

        private int everyShip() {
            return (1 << shipCount) - 1;
        }

        /** How many ships lie, if those of the bits are left. */
        private int levelOf(int left) {
            return shipCount - Integer.bitCount(left);
        }

        /** The least lateness of the ships that are left, as if none of them met another one of them. */
        private int leastOf(int left) {
            int level = levelOf(left);
            int sum = 0;
            for (int i = 0; i < shipCount; i++) {
                if (hasBit(left, i)) {
                    int hours = 0;
                    for (int place = 0; place < places; place++) {
                        hours |= begins[index(level, i, place)];
                    }
                    if (hours == 0) {
                        return NO_BERTH;
                    }
                    sum += ships[i].latenessIf(firstOf(hours));
                }
            }
            return sum;
        }

        /** Each call has one ship less left than its caller, so that it goes four deep at most. */
        private void berthRest(int left, int lateness, int lastTurn) {
            if (left == 0) {
                keepIfAhead(lateness);
                return;
            }
            for (int i = 0; i < shipCount; i++) {
                for (int place = 0; place < places && hasBit(left, i); place++) {
                    tryBerth(left, i, place, lateness, lastTurn);
                }
            }
        }

        private void tryBerth(int left, int ship, int place, int lateness, int lastTurn) {
            int hours = begins[index(levelOf(left), ship, place)];
            if (hours == 0) {
                return;
            }
            int hour = firstOf(hours);
            int turn = hour * MOST_SHIPS + ship;
            // A ship that begins ahead of the last one has had its turn in another order.
            if (turn <= lastTurn) {
                return;
            }
            lay(left, ship, place, hour);
            int rest = left & ~(1 << ship);
            int late = lateness + ships[ship].latenessIf(hour);
            // A plan that is only as good is looked at too: it may be the first of those.
            if (late + leastOf(rest) <= best) {
                berthRest(rest, late, turn);
            }
        }

        /** Puts a ship that is left to a berth and narrows what is open to the others that are. */
        private void lay(int left, int ship, int place, int hour) {
            triedPlaces[ship] = place;
            triedHours[ship] = hour;
            int level = levelOf(left);
            for (int i = 0; i < shipCount; i++) {
                if (i != ship && hasBit(left, i)) {
                    narrow(level, ship, i);
                }
            }
        }

        /** Takes from a ship the hours at which it would meet the one that lies now. */
        private void narrow(int level, int lying, int other) {
            int lyingTime = ships[lying].time;
            int otherTime = ships[other].time;
            int hour = triedHours[lying];
            int taken = beginsBetween(hour - otherTime + 1, hour + lyingTime - 1);
            for (int place = 0; place < places; place++) {
                boolean meet = spansMeet(triedPlaces[lying], ships[lying].length, place, ships[other].length);
                int hours = begins[index(level, other, place)];
                begins[index(level + 1, other, place)] = meet ? hours & ~taken : hours;
            }
        }

        private void keepIfAhead(int lateness) {
            if (lateness >= best && !isTriedAhead()) {
                return;
            }
            best = lateness;
            for (int i = 0; i < shipCount; i++) {
                bestPlaces[i] = triedPlaces[i];
                bestHours[i] = triedHours[i];
            }
        }

        private boolean isTriedAhead() {
            for (int i = 0; i < shipCount; i++) {
                if (triedHours[i] != bestHours[i]) {
                    return triedHours[i] < bestHours[i];
                }
                if (triedPlaces[i] != bestPlaces[i]) {
                    return triedPlaces[i] < bestPlaces[i];
                }
            }
            return false;
        }

        private static int index(int level, int ship, int place) {
            return (level * MOST_SHIPS + ship) * MOST_PLACES + place;
        }

        /** The lowest bit that is set: as many bits as lie below it. */
        private static int firstOf(int bits) {
            return Integer.bitCount((bits & -bits) - 1);
        }
    }
}
