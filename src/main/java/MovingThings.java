/** Where things that move are and were; ../shared/DOC.md numbers what each call promises. */
public final class MovingThings {
    public static final int UNKNOWN = -900001, OUTSIDE = -900002, STATE = -900003, FULL = -900004, NONE = -900009;

    private static final int THING_LIMIT = 10;
    private static final int ROW_LIMIT = 24;
    private static final int MINUTE_LIMIT = 200;
    private static final int SIDE = 100;
    private static final int REACH = 16;
    private static final int PLACE_EDGE = 2000;
    private static final int MEETING_LIMIT = 200;
    private static final int ERROR_LIMIT = 99;
    private static final int STAND_LIMIT = 6;
    private static final int PASS_LIMIT = 100;
    private static final int COLUMN_LIMIT = 10;
    private static final int COLUMN_WIDTH = 10;
    private static final int MACHINE_LIMIT = 5;
    private static final int BLUR_LIMIT = 20;
    private static final int CAME_IN = 100;

    private final Track[] tracks = new Track[THING_LIMIT];
    private final Place[] stands = new Place[STAND_LIMIT];
    private final Place asked = new Place();
    private final Spot spot = new Spot();
    private final Spot otherSpot = new Spot();
    private final Spells spells = new Spells();
    private final Ranking ranking = new Ranking();
    private final Pages tree = new Pages();
    private final Thinning thinning = new Thinning();
    private final Columns columns = new Columns();
    private boolean treeIsOld = false;
    private int standsMade = 0;
    private int rowsMended = 0;
    private int now = 0;

    public MovingThings() {
        for (int thing = 0; thing < THING_LIMIT; thing++) {
            tracks[thing] = new Track();
        }
        for (int number = 0; number < STAND_LIMIT; number++) {
            stands[number] = new Place();
        }
    }

    // ---- rows

    public int say(int thing, int minute, int x, int y) {
        if (!isThing(thing)) {
            return UNKNOWN;
        }
        if (!isMinute(minute) || !isWithin(x, 0, SIDE - 1) || !isWithin(y, 0, SIDE - 1)) {
            return OUTSIDE;
        }
        Track track = tracks[thing];
        if (track.hasRowAt(minute)) {
            rowsMended++;
        } else if (track.rows >= ROW_LIMIT) {
            return FULL;
        }
        track.put(minute, x, y);
        treeIsOld = true;
        return track.rows;
    }

    public int forget(int thing, int row) {
        if (!isRow(thing, row)) {
            return UNKNOWN;
        }
        tracks[thing].drop(row);
        treeIsOld = true;
        return tracks[thing].rows;
    }

    public int kind(int thing, int v) {
        if (!isThing(thing)) {
            return UNKNOWN;
        }
        if (!isWithin(v, 0, 1)) {
            return OUTSIDE;
        }
        int before = tracks[thing].goesOn ? 1 : 0;
        tracks[thing].goesOn = v == 1;
        return before;
    }

    public int row(int thing, int row, int what) {
        if (!isRow(thing, row)) {
            return UNKNOWN;
        }
        Track track = tracks[thing];
        switch (what) {
            case 0:
                return track.minutes[row];
            case 1:
                return track.xs[row];
            case 2:
                return track.ys[row];
            default:
                return OUTSIDE;
        }
    }

    public int at(int thing, int minute, boolean y, boolean upper) {
        int refusal = refuseMoment(thing, minute);
        if (refusal != 0) {
            return refusal;
        }
        if (!tracks[thing].locate(minute, spot)) {
            return STATE;
        }
        int above = y ? spot.y : spot.x;
        return (int) leastTerm(above, spot.below, upper);
    }

    public int there(int thing, int minute) {
        int refusal = refuseMoment(thing, minute);
        if (refusal != 0) {
            return refusal;
        }
        return tracks[thing].locate(minute, spot) ? 1 : 0;
    }

    public int mended() {
        return rowsMended;
    }

    // ---- places

    public int inside(int x0, int x1, int y0, int y1, int minute) {
        if (!isPlace(x0, x1, y0, y1) || !isMinute(minute)) {
            return OUTSIDE;
        }
        asked.set(x0, x1, y0, y1);
        int found = 0;
        for (int thing = 0; thing < THING_LIMIT; thing++) {
            if (isIn(asked, thing, minute)) {
                found++;
            }
        }
        return found;
    }

    public int who(int x0, int x1, int y0, int y1, int minute, int i) {
        if (!isPlace(x0, x1, y0, y1) || !isMinute(minute)) {
            return OUTSIDE;
        }
        asked.set(x0, x1, y0, y1);
        int found = 0;
        for (int thing = 0; thing < THING_LIMIT; thing++) {
            if (isIn(asked, thing, minute)) {
                if (found == i) {
                    return thing;
                }
                found++;
            }
        }
        return NONE;
    }

    public int visits(int thing, int x0, int x1, int y0, int y1) {
        int refusal = refuseVisit(thing, x0, x1, y0, y1);
        if (refusal != 0) {
            return refusal;
        }
        asked.set(x0, x1, y0, y1);
        gatherVisits(thing);
        return spells.found;
    }

    public int visit(int thing, int x0, int x1, int y0, int y1, int i, boolean last) {
        int refusal = refuseVisit(thing, x0, x1, y0, y1);
        if (refusal != 0) {
            return refusal;
        }
        asked.set(x0, x1, y0, y1);
        gatherVisits(thing);
        if (!isWithin(i, 0, spells.found - 1)) {
            return NONE;
        }
        return last ? spells.lasts[i] : spells.firsts[i];
    }

    // ---- near

    public long far(int a, int b, int minute, boolean upper) {
        if (!isThing(a) || !isThing(b)) {
            return UNKNOWN;
        }
        if (!isMinute(minute)) {
            return OUTSIDE;
        }
        if (!locateBoth(a, b, minute)) {
            return STATE;
        }
        return leastTerm(farAbove(spot, otherSpot), farBelow(spot, otherSpot), upper);
    }

    public int nearest(int thing, int minute, int k) {
        int refusal = refuseMoment(thing, minute);
        if (refusal != 0) {
            return refusal;
        }
        if (!tracks[thing].locate(minute, spot)) {
            return STATE;
        }
        ranking.clear();
        for (int other = 0; other < THING_LIMIT; other++) {
            if (other != thing && tracks[other].locate(minute, otherSpot)) {
                ranking.put(other, farAbove(spot, otherSpot), farBelow(spot, otherSpot));
            }
        }
        return ranking.numberAt(k);
    }

    public int meetings(int a, int b, int r) {
        int refusal = refuseMeeting(a, b, r);
        if (refusal != 0) {
            return refusal;
        }
        gatherMeetings(a, b, r);
        return spells.found;
    }

    public int longest(int a, int b, int r, boolean length) {
        int refusal = refuseMeeting(a, b, r);
        if (refusal != 0) {
            return refusal;
        }
        gatherMeetings(a, b, r);
        int best = spells.longestOne();
        if (best < 0) {
            return NONE;
        }
        return length ? spells.lengthOf(best) : spells.firsts[best];
    }

    // ---- pages

    public int pages(int what) {
        refreshTree();
        switch (what) {
            case 0:
                return tree.legs;
            case 1:
                return tree.made;
            case 2:
                return tree.leaves();
            case 3:
                return tree.deepest();
            default:
                return OUTSIDE;
        }
    }

    public long size() {
        refreshTree();
        return tree.leafSizes();
    }

    public int opens(int x0, int x1, int y0, int y1, int from, int to, boolean legs) {
        if (!isPlace(x0, x1, y0, y1) || !isMinute(from) || !isMinute(to) || to < from) {
            return OUTSIDE;
        }
        refreshTree();
        asked.set(x0, x1, y0, y1);
        tree.ask(asked, from, to);
        return legs ? tree.legsTouched : tree.pagesOpened;
    }

    // ---- thinned

    public int thin(int thing, int error) {
        int refusal = refuseThinning(thing, error);
        if (refusal != 0) {
            return refusal;
        }
        thinning.plan(tracks[thing], error);
        return thinning.keeps;
    }

    public int kept(int thing, int error, int i) {
        int refusal = refuseThinning(thing, error);
        if (refusal != 0) {
            return refusal;
        }
        thinning.plan(tracks[thing], error);
        return isWithin(i, 0, thinning.keeps - 1) ? thinning.rowsKept[i] : NONE;
    }

    public int thinned(int thing, int error) {
        int refusal = refuseThinning(thing, error);
        if (refusal != 0) {
            return refusal;
        }
        Track track = tracks[thing];
        int before = track.rows;
        thinning.plan(track, error);
        track.keepOnly(thinning.rowsKept, thinning.keeps);
        treeIsOld = true;
        return before - track.rows;
    }

    // ---- stands

    public int pass(int n) {
        if (!isWithin(n, 1, PASS_LIMIT)) {
            return OUTSIDE;
        }
        if (!isMinute(now + n)) {
            return FULL;
        }
        now += n;
        return now;
    }

    public int stand(int x0, int x1, int y0, int y1) {
        if (!isPlace(x0, x1, y0, y1)) {
            return OUTSIDE;
        }
        if (standsMade >= STAND_LIMIT) {
            return FULL;
        }
        stands[standsMade].set(x0, x1, y0, y1);
        standsMade++;
        return standsMade - 1;
    }

    public int changes(int stand, int minute) {
        int refusal = refuseChange(stand, minute);
        if (refusal != 0) {
            return refusal;
        }
        int found = 0;
        for (int thing = 0; thing < THING_LIMIT; thing++) {
            if (isChange(stands[stand], thing, minute)) {
                found++;
            }
        }
        return found;
    }

    public int change(int stand, int minute, int i) {
        int refusal = refuseChange(stand, minute);
        if (refusal != 0) {
            return refusal;
        }
        int found = 0;
        for (int thing = 0; thing < THING_LIMIT; thing++) {
            if (isChange(stands[stand], thing, minute)) {
                if (found == i) {
                    return isIn(stands[stand], thing, minute) ? thing + CAME_IN : thing;
                }
                found++;
            }
        }
        return NONE;
    }

    public int still(int stand, int thing) {
        if (!isStand(stand) || !isThing(thing)) {
            return UNKNOWN;
        }
        boolean in = isIn(stands[stand], thing, now);
        int alike = 0;
        for (int minute = now + 1; minute < MINUTE_LIMIT; minute++) {
            if (isIn(stands[stand], thing, minute) != in) {
                break;
            }
            alike++;
        }
        return alike;
    }

    // ---- machines, blur

    public int load(int column) {
        if (!isWithin(column, 0, COLUMN_LIMIT - 1)) {
            return OUTSIDE;
        }
        countColumns();
        return columns.loads[column];
    }

    public int share(int machines) {
        if (!isWithin(machines, 1, MACHINE_LIMIT)) {
            return OUTSIDE;
        }
        countColumns();
        return columns.leastGreatest(machines);
    }

    public int gets(int machines, int machine) {
        if (!isWithin(machines, 1, MACHINE_LIMIT) || !isWithin(machine, 0, machines - 1)) {
            return OUTSIDE;
        }
        countColumns();
        return columns.partOf(machines, machine);
    }

    public int blur(int thing, int row, int b, int shift, boolean y) {
        if (!isRow(thing, row)) {
            return UNKNOWN;
        }
        if (!isBlur(b, shift)) {
            return OUTSIDE;
        }
        int place = y ? tracks[thing].ys[row] : tracks[thing].xs[row];
        return (place + shift) / b;
    }

    public int together(int thing, int row, int b, int shift, int other, int otherShift) {
        if (!isRow(thing, row)) {
            return UNKNOWN;
        }
        if (!isBlur(b, shift) || !isBlur(other, otherShift)) {
            return OUTSIDE;
        }
        Track track = tracks[thing];
        return agreeing(track.xs[row], b, shift, other, otherShift)
                * agreeing(track.ys[row], b, shift, other, otherShift);
    }

    public int count(int what) {
        switch (what) {
            case 0:
                return allRows();
            case 1:
                return thingsWithRows();
            case 2:
                return thingsThere();
            case 3:
                return standsMade;
            case 4:
                return now;
            default:
                return OUTSIDE;
        }
    }

    // ---- what is as told

    private static boolean isWithin(int value, int least, int most) {
        return value >= least && value <= most;
    }

    private static boolean isThing(int thing) {
        return isWithin(thing, 0, THING_LIMIT - 1);
    }

    private static boolean isMinute(int minute) {
        return isWithin(minute, 0, MINUTE_LIMIT - 1);
    }

    private static boolean isPlace(int x0, int x1, int y0, int y1) {
        return isSpan(x0, x1) && isSpan(y0, y1);
    }

    private static boolean isSpan(int from, int to) {
        return from >= -PLACE_EDGE && to <= PLACE_EDGE && from <= to;
    }

    private static boolean isBlur(int b, int shift) {
        return isWithin(b, 1, BLUR_LIMIT) && isWithin(shift, 0, b - 1);
    }

    private boolean isRow(int thing, int row) {
        return isThing(thing) && isWithin(row, 0, tracks[thing].rows - 1);
    }

    private boolean isStand(int stand) {
        return isWithin(stand, 0, standsMade - 1);
    }

    // ---- refusals that calls share; 0: nothing is refused

    private static int refuseMoment(int thing, int minute) {
        if (!isThing(thing)) {
            return UNKNOWN;
        }
        return isMinute(minute) ? 0 : OUTSIDE;
    }

    private static int refuseVisit(int thing, int x0, int x1, int y0, int y1) {
        if (!isThing(thing)) {
            return UNKNOWN;
        }
        return isPlace(x0, x1, y0, y1) ? 0 : OUTSIDE;
    }

    private static int refuseThinning(int thing, int error) {
        if (!isThing(thing)) {
            return UNKNOWN;
        }
        return isWithin(error, 0, ERROR_LIMIT) ? 0 : OUTSIDE;
    }

    private int refuseChange(int stand, int minute) {
        if (!isStand(stand)) {
            return UNKNOWN;
        }
        return isMinute(minute) ? 0 : OUTSIDE;
    }

    private static int refuseMeeting(int a, int b, int r) {
        if (!isThing(a) || !isThing(b)) {
            return UNKNOWN;
        }
        if (!isWithin(r, 0, MEETING_LIMIT)) {
            return OUTSIDE;
        }
        return a == b ? STATE : 0;
    }

    // ---- fractions

    /** One half of a fraction in least terms; below is 1 and more. */
    private static long leastTerm(long above, long below, boolean upper) {
        long common = commonMeasure(Math.abs(above), below);
        long term = upper ? above : below;
        return common > 0 ? term / common : term;
    }

    private static long commonMeasure(long a, long b) {
        long larger = a;
        long smaller = b;
        // Euclid's steps on longs never reach a hundred.
        for (int step = 0; step < 100 && smaller != 0; step++) {
            long rest = larger % smaller;
            larger = smaller;
            smaller = rest;
        }
        return larger;
    }

    private static long farAbove(Spot a, Spot b) {
        long dx = (long) a.x * b.below - (long) b.x * a.below;
        long dy = (long) a.y * b.below - (long) b.y * a.below;
        return dx * dx + dy * dy;
    }

    private static long farBelow(Spot a, Spot b) {
        long below = (long) a.below * b.below;
        return below * below;
    }

    // ---- who is where

    private boolean isIn(Place place, int thing, int minute) {
        return tracks[thing].locate(minute, spot) && place.holds(spot);
    }

    private boolean isChange(Place place, int thing, int minute) {
        boolean before = minute > 0 && isIn(place, thing, minute - 1);
        return before != isIn(place, thing, minute);
    }

    private boolean locateBoth(int a, int b, int minute) {
        return tracks[a].locate(minute, spot) && tracks[b].locate(minute, otherSpot);
    }

    private boolean isMeeting(int a, int b, int r, int minute) {
        return locateBoth(a, b, minute)
                && farAbove(spot, otherSpot) <= (long) r * r * farBelow(spot, otherSpot);
    }

    private void gatherVisits(int thing) {
        spells.clear();
        for (int minute = 0; minute < MINUTE_LIMIT; minute++) {
            if (isIn(asked, thing, minute)) {
                spells.add(minute);
            }
        }
    }

    private void gatherMeetings(int a, int b, int r) {
        spells.clear();
        for (int minute = 0; minute < MINUTE_LIMIT; minute++) {
            if (isMeeting(a, b, r, minute)) {
                spells.add(minute);
            }
        }
    }

    private int allRows() {
        int found = 0;
        for (int thing = 0; thing < THING_LIMIT; thing++) {
            found += tracks[thing].rows;
        }
        return found;
    }

    private int thingsWithRows() {
        int found = 0;
        for (int thing = 0; thing < THING_LIMIT; thing++) {
            if (tracks[thing].rows > 0) {
                found++;
            }
        }
        return found;
    }

    private int thingsThere() {
        int found = 0;
        for (int thing = 0; thing < THING_LIMIT; thing++) {
            if (tracks[thing].locate(now, spot)) {
                found++;
            }
        }
        return found;
    }

    // ---- what is made anew from the rows

    private void refreshTree() {
        if (!treeIsOld) {
            return;
        }
        tree.clear();
        for (int thing = 0; thing < THING_LIMIT; thing++) {
            Track track = tracks[thing];
            for (int row = 0; row + 1 < track.rows; row++) {
                if (track.isLeg(row)) {
                    int leaf = tree.takeLeg(track, row);
                    tree.cutIfOverfull(leaf);
                }
            }
        }
        treeIsOld = false;
    }

    private void countColumns() {
        columns.clear();
        for (int thing = 0; thing < THING_LIMIT; thing++) {
            Track track = tracks[thing];
            for (int row = 0; row < track.rows; row++) {
                columns.add(track.xs[row] / COLUMN_WIDTH);
            }
        }
    }

    /** How many whole numbers of one axis both blurs tell as they tell the value. */
    private static int agreeing(int value, int b, int shift, int other, int otherShift) {
        if (b < 1 || other < 1) {
            return 0;
        }
        int start = (value + shift) / b * b - shift;
        int otherStart = (value + otherShift) / other * other - otherShift;
        int from = Math.max(0, Math.max(start, otherStart));
        int to = Math.min(SIDE, Math.min(start + b, otherStart + other));
        return Math.max(0, to - from);
    }

    /** Where a thing is: x and y as fractions over one number below, not in least terms. */
    private static final class Spot {
        int x = 0;
        int y = 0;
        int below = 1;
    }

    /** x and y from .. to, both ends with them. */
    private static final class Place {
        int x0 = 0;
        int x1 = 0;
        int y0 = 0;
        int y1 = 0;

        void set(int fromX, int toX, int fromY, int toY) {
            x0 = fromX;
            x1 = toX;
            y0 = fromY;
            y1 = toY;
        }

        boolean holds(Spot spot) {
            return x0 * spot.below <= spot.x && spot.x <= x1 * spot.below
                    && y0 * spot.below <= spot.y && spot.y <= y1 * spot.below;
        }
    }

    /** The rows of one thing, in order of minutes. */
    private static final class Track {
        final int[] minutes = new int[ROW_LIMIT];
        final int[] xs = new int[ROW_LIMIT];
        final int[] ys = new int[ROW_LIMIT];
        int rows = 0;
        boolean goesOn = false;

        /** The last row at a minute or ahead of it; -1: there is none. */
        int lastRowUpTo(int minute) {
            int low = 0;
            int high = rows;
            for (int step = 0; step < ROW_LIMIT && low < high; step++) {
                int middle = (low + high) / 2;
                if (minutes[middle] <= minute) {
                    low = middle + 1;
                } else {
                    high = middle;
                }
            }
            return low - 1;
        }

        boolean hasRowAt(int minute) {
            int row = lastRowUpTo(minute);
            return row >= 0 && minutes[row] == minute;
        }

        /** Takes the place of the minute's row, if it has one. */
        void put(int minute, int x, int y) {
            int row = lastRowUpTo(minute);
            if (row < 0 || minutes[row] != minute) {
                if (rows >= ROW_LIMIT) {
                    return;
                }
                row++;
                for (int i = rows; i > row; i--) {
                    copyRow(i - 1, i);
                }
                rows++;
            }
            minutes[row] = minute;
            xs[row] = x;
            ys[row] = y;
        }

        void drop(int row) {
            for (int i = row; i + 1 < rows; i++) {
                copyRow(i + 1, i);
            }
            rows--;
        }

        /** The kept numbers rise, so no row is written over before it is read. */
        void keepOnly(int[] kept, int many) {
            for (int i = 0; i < many; i++) {
                copyRow(kept[i], i);
            }
            rows = many;
        }

        private void copyRow(int from, int to) {
            minutes[to] = minutes[from];
            xs[to] = xs[from];
            ys[to] = ys[from];
        }

        /** Whether a leg begins at a row. */
        boolean isLeg(int row) {
            return row >= 0 && row + 1 < rows && minutes[row + 1] - minutes[row] <= REACH;
        }

        /** Whether the thing is there at a minute; the spot then says where. */
        boolean locate(int minute, Spot spot) {
            int row = lastRowUpTo(minute);
            if (row < 0) {
                return false;
            }
            if (row == rows - 1) {
                return locateBehind(row, minute, spot);
            }
            if (isLeg(row)) {
                followLeg(row, minute, spot);
                return true;
            }
            standAt(row, spot);
            return minutes[row] == minute;
        }

        private boolean locateBehind(int row, int minute, Spot spot) {
            if (minute - minutes[row] > REACH) {
                return false;
            }
            if (goesOn && isLeg(row - 1)) {
                followLeg(row - 1, minute, spot);
            } else {
                standAt(row, spot);
            }
            return true;
        }

        private void standAt(int row, Spot spot) {
            spot.x = xs[row];
            spot.y = ys[row];
            spot.below = 1;
        }

        /** Between the leg's ends, or on behind its last one. */
        private void followLeg(int row, int minute, Spot spot) {
            int gone = minute - minutes[row];
            spot.below = minutes[row + 1] - minutes[row];
            spot.x = xs[row] * spot.below + (xs[row + 1] - xs[row]) * gone;
            spot.y = ys[row] * spot.below + (ys[row + 1] - ys[row]) * gone;
        }
    }

    /** Minutes that rise, gathered into runs without a gap. */
    private static final class Spells {
        final int[] firsts = new int[MINUTE_LIMIT / 2];
        final int[] lasts = new int[MINUTE_LIMIT / 2];
        int found = 0;

        void clear() {
            found = 0;
        }

        void add(int minute) {
            if (found > 0 && lasts[found - 1] == minute - 1) {
                lasts[found - 1] = minute;
            } else if (found < firsts.length) {
                firsts[found] = minute;
                lasts[found] = minute;
                found++;
            }
        }

        int lengthOf(int spell) {
            return lasts[spell] - firsts[spell] + 1;
        }

        /** The first of the longest; -1: there is none. */
        int longestOne() {
            int best = -1;
            for (int i = 0; i < found; i++) {
                if (best < 0 || lengthOf(i) > lengthOf(best)) {
                    best = i;
                }
            }
            return best;
        }
    }

    /** Things by a fraction each, of like ones by number. */
    private static final class Ranking {
        private final int[] numbers = new int[THING_LIMIT];
        private final long[] above = new long[THING_LIMIT];
        private final long[] below = new long[THING_LIMIT];
        private int held = 0;

        void clear() {
            held = 0;
        }

        /** Numbers come rising, so a like one stays behind those that are held. */
        void put(int number, long upper, long lower) {
            if (held >= THING_LIMIT) {
                return;
            }
            int to = held;
            for (; to > 0 && upper * below[to - 1] < above[to - 1] * lower; to--) {
                numbers[to] = numbers[to - 1];
                above[to] = above[to - 1];
                below[to] = below[to - 1];
            }
            numbers[to] = number;
            above[to] = upper;
            below[to] = lower;
            held++;
        }

        int numberAt(int k) {
            return isWithin(k, 0, held - 1) ? numbers[k] : NONE;
        }
    }

    /** Which rows of a track are kept, if it is thinned. */
    private static final class Thinning {
        final int[] rowsKept = new int[ROW_LIMIT];
        private final int[] fewestFrom = new int[ROW_LIMIT];
        int keeps = 0;

        void plan(Track track, int error) {
            keeps = 0;
            if (track.rows == 0) {
                return;
            }
            countBackwards(track, error);
            keep(0);
            for (int row = 1; row < track.rows; row++) {
                int last = rowsKept[keeps - 1];
                if (fewestFrom[row] == fewestFrom[last] - 1 && mayFollow(track, last, row, error)) {
                    keep(row);
                }
            }
        }

        private void keep(int row) {
            rowsKept[keeps] = row;
            keeps++;
        }

        private void countBackwards(Track track, int error) {
            fewestFrom[track.rows - 1] = 1;
            for (int row = track.rows - 2; row >= 0; row--) {
                // The next row may always follow.
                int fewest = fewestFrom[row + 1];
                for (int next = row + 2; next < track.rows; next++) {
                    if (fewestFrom[next] < fewest && mayFollow(track, row, next, error)) {
                        fewest = fewestFrom[next];
                    }
                }
                fewestFrom[row] = fewest + 1;
            }
        }

        private static boolean mayFollow(Track track, int row, int next, int error) {
            if (next == row + 1) {
                return true;
            }
            if (track.minutes[next] - track.minutes[row] > REACH) {
                return false;
            }
            for (int between = row + 1; between < next; between++) {
                if (!isNearLine(track.xs, track.minutes, row, next, between, error)
                        || !isNearLine(track.ys, track.minutes, row, next, between, error)) {
                    return false;
                }
            }
            return true;
        }

        /** Along one axis; all is taken times the minutes from row to next, so that it stays whole. */
        private static boolean isNearLine(int[] axis, int[] minutes, int row, int next, int between, int error) {
            int span = minutes[next] - minutes[row];
            int gone = minutes[between] - minutes[row];
            int line = axis[row] * span + (axis[next] - axis[row]) * gone;
            return Math.abs(axis[between] * span - line) <= error * span;
        }
    }

    /** How many rows each column has, and how columns are shared out. */
    private static final class Columns {
        final int[] loads = new int[COLUMN_LIMIT];

        void clear() {
            for (int column = 0; column < COLUMN_LIMIT; column++) {
                loads[column] = 0;
            }
        }

        void add(int column) {
            if (isWithin(column, 0, COLUMN_LIMIT - 1)) {
                loads[column]++;
            }
        }

        int leastGreatest(int machines) {
            int most = 0;
            for (; most < THING_LIMIT * ROW_LIMIT; most++) {
                if (fits(0, machines, most)) {
                    break;
                }
            }
            return most;
        }

        /** What is left must fit the machines left: then the fewest columns for each is the first sharing. */
        int partOf(int machines, int machine) {
            int most = leastGreatest(machines);
            int start = 0;
            int end = 0;
            for (int i = 0; i <= machine; i++) {
                start = end;
                while (end < COLUMN_LIMIT && !fits(end, machines - i - 1, most)) {
                    end++;
                }
            }
            return end - start;
        }

        /** Whether all columns from one on go to so many machines with no greater load than most. */
        private boolean fits(int from, int machines, int most) {
            if (from < COLUMN_LIMIT && machines < 1) {
                return false;
            }
            int machinesLeft = machines;
            int room = 0;
            for (int column = from; column < COLUMN_LIMIT; column++) {
                if (loads[column] > room) {
                    if (loads[column] > most || machinesLeft < 1) {
                        return false;
                    }
                    machinesLeft--;
                    room = most;
                }
                room -= loads[column];
            }
            return true;
        }
    }

    /** Boxes one behind the other in one array: x from, to, y from, to, minutes from, to. */
    private static final class Boxes {
        private static final int WIDTH = 6;
        private final int[] ends;

        Boxes(int many) {
            ends = new int[Math.max(0, many) * WIDTH];
        }

        void setAxis(int box, int axis, int from, int to) {
            int start = box * WIDTH + 2 * axis;
            ends[start] = from;
            ends[start + 1] = to;
        }

        void copyFrom(int box, Boxes others, int other) {
            for (int i = 0; i < WIDTH; i++) {
                ends[box * WIDTH + i] = others.ends[other * WIDTH + i];
            }
        }

        /** The least box that holds both takes the first one's place. */
        void widen(int box, Boxes others, int other) {
            for (int i = 0; i < WIDTH; i += 2) {
                int own = box * WIDTH + i;
                int added = other * WIDTH + i;
                ends[own] = Math.min(ends[own], others.ends[added]);
                ends[own + 1] = Math.max(ends[own + 1], others.ends[added + 1]);
            }
        }

        int sizeOf(int box) {
            int product = 1;
            for (int i = box * WIDTH; i < box * WIDTH + WIDTH; i += 2) {
                product *= ends[i + 1] - ends[i] + 1;
            }
            return product;
        }

        int growth(int box, Boxes others, int other) {
            int product = 1;
            for (int i = 0; i < WIDTH; i += 2) {
                int own = box * WIDTH + i;
                int added = other * WIDTH + i;
                int from = Math.min(ends[own], others.ends[added]);
                int to = Math.max(ends[own + 1], others.ends[added + 1]);
                product *= to - from + 1;
            }
            return product - sizeOf(box);
        }

        boolean touch(int box, Boxes others, int other) {
            for (int i = 0; i < WIDTH; i += 2) {
                int own = box * WIDTH + i;
                int asked = other * WIDTH + i;
                if (ends[own] > others.ends[asked + 1] || others.ends[asked] > ends[own + 1]) {
                    return false;
                }
            }
            return true;
        }

        int endsSum(int box, int axis) {
            int start = box * WIDTH + 2 * axis;
            return ends[start] + ends[start + 1];
        }
    }

    /** The pages; a fork's two pages have numbers one behind the other, above its own. */
    private static final class Pages {
        private static final int LEG_LIMIT = THING_LIMIT * (ROW_LIMIT - 1);
        /** Each leaf behind a cut has two legs or more. */
        private static final int PAGE_LIMIT = LEG_LIMIT;
        private static final int LEAF_LIMIT = 4;
        private static final int SLOTS = LEAF_LIMIT + 1;
        private static final int AXES = 3;

        private final Boxes legBoxes = new Boxes(LEG_LIMIT);
        private final Boxes pageBoxes = new Boxes(PAGE_LIMIT);
        /** 0: the page is a leaf. */
        private final int[] firstParts = new int[PAGE_LIMIT];
        private final int[] heldLegs = new int[PAGE_LIMIT * SLOTS];
        private final int[] heldCounts = new int[PAGE_LIMIT];
        private final int[] depths = new int[PAGE_LIMIT];
        private final boolean[] opened = new boolean[PAGE_LIMIT];
        private final int[] order = new int[SLOTS];
        private final int[] bestOrder = new int[SLOTS];
        private final Boxes trial = new Boxes(1);
        private final Boxes wanted = new Boxes(1);
        int legs = 0;
        int made = 1;
        int pagesOpened = 0;
        int legsTouched = 0;

        void clear() {
            legs = 0;
            made = 0;
            addLeaf();
        }

        private void addLeaf() {
            firstParts[made] = 0;
            heldCounts[made] = 0;
            made++;
        }

        /** Answers the leaf to which the leg came. */
        int takeLeg(Track track, int row) {
            if (legs >= LEG_LIMIT) {
                return 0;
            }
            int leg = legs;
            legs++;
            setLegAxis(leg, 0, track.xs, row);
            setLegAxis(leg, 1, track.ys, row);
            setLegAxis(leg, 2, track.minutes, row);
            int page = 0;
            for (int step = 0; step < PAGE_LIMIT && firstParts[page] != 0; step++) {
                pageBoxes.widen(page, legBoxes, leg);
                page = partFor(page, leg);
            }
            hold(page, leg);
            return page;
        }

        private void setLegAxis(int leg, int axis, int[] values, int row) {
            int one = values[row];
            int next = values[row + 1];
            legBoxes.setAxis(leg, axis, Math.min(one, next), Math.max(one, next));
        }

        private int partFor(int fork, int leg) {
            int first = firstParts[fork];
            int firstGrowth = pageBoxes.growth(first, legBoxes, leg);
            int nextGrowth = pageBoxes.growth(first + 1, legBoxes, leg);
            return nextGrowth < firstGrowth ? first + 1 : first;
        }

        private void hold(int leaf, int leg) {
            if (heldCounts[leaf] >= SLOTS) {
                return;
            }
            if (heldCounts[leaf] == 0) {
                pageBoxes.copyFrom(leaf, legBoxes, leg);
            } else {
                pageBoxes.widen(leaf, legBoxes, leg);
            }
            heldLegs[leaf * SLOTS + heldCounts[leaf]] = leg;
            heldCounts[leaf]++;
        }

        void cutIfOverfull(int leaf) {
            if (firstParts[leaf] != 0 || heldCounts[leaf] <= LEAF_LIMIT || made + 2 > PAGE_LIMIT) {
                return;
            }
            int firstMany = chooseCut(leaf);
            firstParts[leaf] = made;
            addLeaf();
            addLeaf();
            for (int i = 0; i < SLOTS; i++) {
                hold(i < firstMany ? made - 2 : made - 1, bestOrder[i]);
            }
        }

        /** Leaves the legs of the best way in bestOrder; answers how many of them make the first leaf. */
        private int chooseCut(int leaf) {
            int bestMany = 0;
            int leastSum = 0;
            for (int axis = 0; axis < AXES; axis++) {
                sortAlong(leaf, axis);
                for (int many = 2; many <= 3; many++) {
                    int sum = sizeTogether(0, many) + sizeTogether(many, SLOTS);
                    if (bestMany == 0 || sum < leastSum) {
                        bestMany = many;
                        leastSum = sum;
                        System.arraycopy(order, 0, bestOrder, 0, SLOTS);
                    }
                }
            }
            return bestMany;
        }

        private void sortAlong(int leaf, int axis) {
            for (int i = 0; i < SLOTS; i++) {
                int leg = heldLegs[leaf * SLOTS + i];
                int to = i;
                for (; to > 0 && isAhead(leg, order[to - 1], axis); to--) {
                    order[to] = order[to - 1];
                }
                order[to] = leg;
            }
        }

        /** Legs have numbers in the order in which they came. */
        private boolean isAhead(int leg, int other, int axis) {
            int sum = legBoxes.endsSum(leg, axis);
            int otherSum = legBoxes.endsSum(other, axis);
            return sum < otherSum || sum == otherSum && leg < other;
        }

        private int sizeTogether(int from, int to) {
            trial.copyFrom(0, legBoxes, order[from]);
            for (int i = from + 1; i < to; i++) {
                trial.widen(0, legBoxes, order[i]);
            }
            return trial.sizeOf(0);
        }

        int leaves() {
            // Each fork made one page into one more leaf.
            return (made + 1) / 2;
        }

        int deepest() {
            int most = 1;
            depths[0] = 1;
            for (int page = 0; page < made; page++) {
                int first = firstParts[page];
                if (first != 0) {
                    depths[first] = depths[page] + 1;
                    depths[first + 1] = depths[page] + 1;
                    most = Math.max(most, depths[first]);
                }
            }
            return most;
        }

        long leafSizes() {
            long sum = 0;
            for (int page = 0; page < made; page++) {
                if (firstParts[page] == 0 && heldCounts[page] > 0) {
                    sum += pageBoxes.sizeOf(page);
                }
            }
            return sum;
        }

        void ask(Place place, int from, int to) {
            wanted.setAxis(0, 0, place.x0, place.x1);
            wanted.setAxis(0, 1, place.y0, place.y1);
            wanted.setAxis(0, 2, from, to);
            pagesOpened = 0;
            legsTouched = 0;
            opened[0] = legs > 0 && pageBoxes.touch(0, wanted, 0);
            for (int page = 0; page < made; page++) {
                int first = firstParts[page];
                if (first != 0) {
                    opened[first] = opened[page] && pageBoxes.touch(first, wanted, 0);
                    opened[first + 1] = opened[page] && pageBoxes.touch(first + 1, wanted, 0);
                }
                if (opened[page]) {
                    pagesOpened++;
                    legsTouched += first == 0 ? touchedIn(page) : 0;
                }
            }
        }

        private int touchedIn(int leaf) {
            int touched = 0;
            for (int i = 0; i < heldCounts[leaf]; i++) {
                if (legBoxes.touch(heldLegs[leaf * SLOTS + i], wanted, 0)) {
                    touched++;
                }
            }
            return touched;
        }
    }
}
