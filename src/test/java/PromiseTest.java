/** Each promise by number: ordinary inputs, the edges that the document names, wrong inputs; all reckoned by hand. */
public final class PromiseTest {
    static final int UNKNOWN = -900001, OUTSIDE = -900002, STATE = -900003, FULL = -900004, NONE = -900009;
    static final int LOW = Integer.MIN_VALUE, HIGH = Integer.MAX_VALUE;

    static int wrong = 0;
    static int asked = 0;

    static void due(int promise, String what, long got, long want) {
        asked++;
        if (got != want) {
            wrong++;
            System.out.println("promise " + promise + ": " + what + " answered " + got + ", due is " + want);
        }
    }

    public static void main(String[] args) {
        newObject();
        say();
        forget();
        kind();
        row();
        at();
        there();
        mended();
        inside();
        who();
        visits();
        visit();
        far();
        nearest();
        meetings();
        longest();
        pages();
        size();
        cuts();
        opens();
        thin();
        kept();
        thinned();
        pass();
        stand();
        changes();
        change();
        still();
        load();
        share();
        gets();
        blur();
        together();
        count();
        System.out.println(wrong == 0 ? asked + " answers are as due" : wrong + " answers are not as due");
        if (wrong != 0) {
            System.exit(1);
        }
    }

    /** Rows of thing 0: minute, x, y, minute, .. */
    static MovingThings told(int... rows) {
        MovingThings x = new MovingThings();
        tell(x, 0, rows);
        return x;
    }

    static void tell(MovingThings x, int thing, int... rows) {
        for (int i = 0; i < rows.length; i += 3) {
            x.say(thing, rows[i], rows[i + 1], rows[i + 2]);
        }
    }

    static MovingThings full() {
        MovingThings x = new MovingThings();
        for (int i = 0; i < 24; i++) {
            due(2, "say", x.say(0, 2 * i, i, i), i + 1);
        }
        return x;
    }

    static void newObject() {
        MovingThings x = new MovingThings();
        for (int what = 0; what < 5; what++) {
            due(1, "count " + what, x.count(what), 0);
        }
        due(1, "mended", x.mended(), 0);
        due(1, "no rows", x.row(0, 0, 0), UNKNOWN);
        due(1, "no stands", x.changes(0, 0), UNKNOWN);
        due(1, "there", x.there(0, 0), 0);
        due(1, "one empty page", x.pages(1), 1);
        due(1, "constants", MovingThings.UNKNOWN, UNKNOWN);
        due(1, "constants", MovingThings.OUTSIDE, OUTSIDE);
        due(1, "constants", MovingThings.STATE, STATE);
        due(1, "constants", MovingThings.FULL, FULL);
        due(1, "constants", MovingThings.NONE, NONE);
        MovingThings other = told(0, 1, 2);
        due(1, "objects share nothing", x.count(0) + 10 * other.count(0), 10);
    }

    static void say() {
        MovingThings x = told(50, 5, 6, 10, 1, 2, 30, 3, 4);
        int[] minutes = {10, 30, 50};
        for (int i = 0; i < 3; i++) {
            due(2, "in order of minutes", x.row(0, i, 0), minutes[i]);
            due(2, "x goes with it", x.row(0, i, 1), 2 * i + 1);
            due(2, "y goes with it", x.row(0, i, 2), 2 * i + 2);
        }
        due(2, "takes the place", x.say(0, 30, 33, 44), 3);
        due(2, "place taken", x.row(0, 1, 1) * 100 + x.row(0, 1, 2), 3344);
        due(2, "edges", x.say(9, 0, 0, 99), 1);
        due(2, "edges", x.say(9, 199, 99, 0), 2);
        int[] none = {-1, 10, LOW, HIGH};
        for (int thing : none) {
            due(2, "no such thing", x.say(thing, 0, 0, 0), UNKNOWN);
        }
        due(2, "unknown is first", x.say(10, 200, 100, 100), UNKNOWN);
        for (int bad : new int[] {-1, 200, LOW, HIGH}) {
            due(2, "minute", x.say(1, bad, 0, 0), OUTSIDE);
        }
        for (int bad : new int[] {-1, 100, LOW, HIGH}) {
            due(2, "x", x.say(1, 0, bad, 0), OUTSIDE);
            due(2, "y", x.say(1, 0, 0, bad), OUTSIDE);
        }
        due(2, "refused: nothing changed", x.count(0), 5);
        MovingThings full = full();
        due(2, "full", full.say(0, 1, 1, 1), FULL);
        due(2, "outside is ahead of full", full.say(0, 1, 100, 1), OUTSIDE);
        due(2, "full changes nothing", full.row(0, 1, 0), 2);
        due(2, "mended though full", full.say(0, 46, 7, 8), 24);
        due(2, "mended though full", full.row(0, 23, 1), 7);
        due(2, "another thing is not full", full.say(1, 1, 1, 1), 1);
    }

    static void forget() {
        MovingThings x = told(10, 1, 2, 20, 3, 4, 30, 5, 6);
        for (int bad : new int[] {-1, 3, LOW, HIGH}) {
            due(3, "no such row", x.forget(0, bad), UNKNOWN);
            due(3, "no such thing", x.forget(bad == 3 ? 10 : bad, 0), UNKNOWN);
        }
        due(3, "a thing without rows", x.forget(1, 0), UNKNOWN);
        due(3, "the middle one", x.forget(0, 1), 2);
        due(3, "the next moves up", x.row(0, 1, 0), 30);
        due(3, "the next moves up", x.row(0, 1, 1) * 10 + x.row(0, 1, 2), 56);
        due(3, "the last", x.forget(0, 1), 1);
        due(3, "the first", x.forget(0, 0), 0);
        due(3, "nothing left", x.forget(0, 0), UNKNOWN);
        MovingThings full = full();
        due(3, "room again", full.forget(0, 23) + full.say(0, 199, 0, 0), 47);
    }

    static void kind() {
        MovingThings x = told(0, 10, 20, 2, 13, 19);
        due(4, "stands at first", x.at(0, 4, false, true), 13);
        due(4, "was 0", x.kind(0, 1), 0);
        due(4, "goes on", x.at(0, 4, false, true), 16);
        due(4, "was 1", x.kind(0, 1), 1);
        due(4, "was 1", x.kind(0, 0), 1);
        due(4, "stands again", x.at(0, 4, false, true), 13);
        due(4, "a thing without rows has one too", x.kind(9, 1) + x.kind(9, 1), 1);
        for (int bad : new int[] {-1, 10, LOW, HIGH}) {
            due(4, "no such thing", x.kind(bad, 7), UNKNOWN);
            due(4, "v", x.kind(0, bad), OUTSIDE);
        }
        due(4, "v", x.kind(0, 2), OUTSIDE);
        due(4, "refused: as it was", x.kind(0, 0), 0);
    }

    static void row() {
        MovingThings x = told(10, 1, 2);
        due(5, "minute", x.row(0, 0, 0), 10);
        due(5, "x", x.row(0, 0, 1), 1);
        due(5, "y", x.row(0, 0, 2), 2);
        for (int bad : new int[] {-1, LOW, HIGH, 10}) {
            due(5, "thing", x.row(bad, 0, 0), UNKNOWN);
            due(5, "row, ahead of what", x.row(0, bad, 9), UNKNOWN);
            due(5, "what", x.row(0, 0, bad), OUTSIDE);
        }
        due(5, "row", x.row(0, 1, 0), UNKNOWN);
        due(5, "what", x.row(0, 0, 3), OUTSIDE);
    }

    static void fraction(int promise, MovingThings x, int minute, boolean y, int above, int below) {
        due(promise, "above at " + minute, x.at(0, minute, y, true), above);
        due(promise, "below at " + minute, x.at(0, minute, y, false), below);
    }

    static void at() {
        MovingThings x = told(0, 0, 99, 16, 4, 0, 33, 50, 50);
        fraction(6, x, 0, false, 0, 1);
        fraction(6, x, 2, false, 1, 2);
        fraction(6, x, 3, false, 3, 4);
        fraction(6, x, 4, false, 1, 1);
        fraction(6, x, 1, true, 1485, 16);
        fraction(6, x, 8, true, 99, 2);
        fraction(6, x, 16, true, 0, 1);
        fraction(6, x, 33, true, 50, 1);
        fraction(6, x, 49, true, 50, 1);
        for (boolean upper : new boolean[] {true, false}) {
            due(6, "17 apart is no leg", x.at(0, 20, false, upper), STATE);
            due(6, "too far behind", x.at(0, 50, false, upper), STATE);
            due(6, "unknown", x.at(10, -1, false, upper), UNKNOWN);
            due(6, "unknown", x.at(-1, 0, false, upper), UNKNOWN);
            due(6, "outside", x.at(1, 200, false, upper), OUTSIDE);
            due(6, "outside", x.at(0, -1, false, upper), OUTSIDE);
        }
        MovingThings on = told(10, 0, 99, 11, 99, 0);
        on.kind(0, 1);
        fraction(6, on, 27, false, 1683, 1);
        fraction(6, on, 27, true, -1584, 1);
        MovingThings slow = told(10, 5, 1, 25, 3, 0);
        slow.kind(0, 1);
        fraction(6, slow, 41, true, -16, 15);
        fraction(6, slow, 41, false, 13, 15);
        MovingThings lone = told(10, 5, 1);
        lone.kind(0, 1);
        fraction(6, lone, 20, false, 5, 1);
        MovingThings gap = told(10, 5, 1, 27, 50, 9);
        gap.kind(0, 1);
        fraction(6, gap, 30, false, 50, 1);
    }

    static void there() {
        MovingThings x = told(20, 0, 0, 36, 0, 0, 53, 0, 0, 190, 1, 1);
        int[][] due = {{0, 0}, {19, 0}, {20, 1}, {28, 1}, {36, 1}, {37, 0}, {52, 0}, {53, 1}, {54, 0}, {69, 0},
            {190, 1}, {199, 1}};
        for (int[] one : due) {
            due(7, "at minute " + one[0], x.there(0, one[0]), one[1]);
        }
        x.forget(0, 3);
        due(7, "16 behind the last", x.there(0, 69), 1);
        due(7, "17 behind the last", x.there(0, 70), 0);
        for (int bad : new int[] {-1, 200, LOW, HIGH}) {
            due(7, "thing", x.there(bad, bad), UNKNOWN);
            due(7, "minute", x.there(9, bad), OUTSIDE);
        }
    }

    static void mended() {
        MovingThings x = told(1, 1, 1, 2, 2, 2);
        due(8, "none", x.mended(), 0);
        x.say(0, 1, 1, 1);
        x.say(0, 2, 9, 9);
        x.say(0, 2, 9, 100);
        x.say(1, 2, 9, 9);
        due(8, "two, the same one told again too", x.mended(), 2);
        x.forget(0, 0);
        x.say(0, 1, 1, 1);
        due(8, "forgotten, then told anew", x.mended(), 2);
    }

    static MovingThings three() {
        MovingThings x = told(0, 0, 0, 10, 30, 5);
        tell(x, 4, 3, 10, 0);
        tell(x, 7, 3, 9, 2);
        return x;
    }

    static void badPlaces(int promise, MovingThings x) {
        int[][] bad = {{1, 0, 0, 0}, {0, 0, 1, 0}, {-2001, 0, 0, 0}, {0, 2001, 0, 0}, {0, 0, -2001, 0},
            {0, 0, 0, 2001}, {LOW, HIGH, LOW, HIGH}, {HIGH, LOW, 0, 0}};
        for (int[] p : bad) {
            long got = OUTSIDE;
            switch (promise) {
                case 9:
                    got = x.inside(p[0], p[1], p[2], p[3], 0);
                    break;
                case 10:
                    got = x.who(p[0], p[1], p[2], p[3], 0, -1);
                    break;
                case 11:
                    got = x.visits(0, p[0], p[1], p[2], p[3]);
                    break;
                case 12:
                    got = x.visit(0, p[0], p[1], p[2], p[3], -1, true);
                    break;
                case 19:
                    got = x.opens(p[0], p[1], p[2], p[3], 0, 0, true);
                    break;
                default:
                    got = x.stand(p[0], p[1], p[2], p[3]);
            }
            due(promise, "place " + java.util.Arrays.toString(p), got, OUTSIDE);
        }
    }

    static void inside() {
        MovingThings x = three();
        due(9, "both ends with them", x.inside(9, 10, 0, 2, 3), 3);
        due(9, "x ends", x.inside(10, 30, 0, 2, 3), 1);
        due(9, "y ends", x.inside(0, 30, 2, 2, 3), 1);
        due(9, "a fraction is in", x.inside(9, 9, 1, 2, 3), 2);
        due(9, "a fraction is not in", x.inside(9, 9, 2, 2, 3), 1);
        due(9, "widest", x.inside(-2000, 2000, -2000, 2000, 3), 3);
        due(9, "not there", x.inside(-2000, 2000, -2000, 2000, 2), 1);
        due(9, "till 16 behind", x.inside(-2000, 2000, -2000, 2000, 19), 3);
        due(9, "later", x.inside(-2000, 2000, -2000, 2000, 20), 1);
        MovingThings on = told(0, 50, 50, 1, 0, 99);
        on.kind(0, 1);
        due(9, "goes on out of all rows", on.inside(-800, -800, 883, 883, 17), 1);
        due(9, "goes on", on.inside(-799, 2000, -2000, 2000, 17), 0);
        badPlaces(9, x);
        due(9, "minute", x.inside(0, 0, 0, 0, -1), OUTSIDE);
        due(9, "minute", x.inside(0, 0, 0, 0, 200), OUTSIDE);
    }

    static void who() {
        MovingThings x = three();
        int[] all = {0, 4, 7};
        for (int i = 0; i < 3; i++) {
            due(10, "all by number", x.who(0, 99, 0, 99, 3, i), all[i]);
        }
        due(10, "the second of two", x.who(9, 9, 1, 2, 3, 1), 7);
        for (int i : new int[] {-1, 3, LOW, HIGH}) {
            due(10, "none", x.who(0, 99, 0, 99, 3, i), NONE);
        }
        badPlaces(10, x);
        due(10, "minute is ahead of i", x.who(0, 0, 0, 0, 200, -1), OUTSIDE);
        due(10, "minute", x.who(0, 0, 0, 0, -1, 0), OUTSIDE);
    }

    static MovingThings thrice() {
        return told(0, 0, 0, 10, 20, 0, 20, 0, 0, 30, 20, 0, 199, 5, 0);
    }

    static void visits() {
        MovingThings x = thrice();
        due(11, "there, back, there, at the end", x.visits(0, 5, 9, 0, 0), 4);
        due(11, "one for all with a gap", x.visits(0, 0, 20, 0, 0), 2);
        due(11, "where it never is", x.visits(0, 0, 20, 1, 1), 0);
        due(11, "between two minutes only", x.visits(0, 3, 3, 0, 0), 0);
        due(11, "a thing without rows", x.visits(1, -2000, 2000, -2000, 2000), 0);
        badPlaces(11, x);
        due(11, "thing is first", x.visits(10, 1, 0, 0, 0), UNKNOWN);
        due(11, "thing", x.visits(-1, 0, 0, 0, 0), UNKNOWN);
        // Rows 17 apart have no legs: each is a visit of its own.
        MovingThings apart = new MovingThings();
        for (int i = 0; i < 11; i++) {
            apart.say(0, 17 * i, 1, 1);
        }
        due(11, "rows alone", apart.visits(0, 1, 1, 1, 1), 11);
    }

    static void visit() {
        MovingThings x = thrice();
        int[][] due = {{3, 4}, {16, 17}, {23, 24}, {199, 199}};
        for (int i = 0; i < 4; i++) {
            due(12, "first of " + i, x.visit(0, 5, 9, 0, 0, i, false), due[i][0]);
            due(12, "last of " + i, x.visit(0, 5, 9, 0, 0, i, true), due[i][1]);
        }
        due(12, "from minute 0", x.visit(0, 0, 20, 0, 0, 0, false), 0);
        due(12, "till the last row of the legs", x.visit(0, 0, 20, 0, 0, 0, true), 30);
        for (int i : new int[] {-1, 4, LOW, HIGH}) {
            due(12, "none", x.visit(0, 5, 9, 0, 0, i, false), NONE);
            due(12, "none", x.visit(0, 5, 9, 0, 0, i, true), NONE);
        }
        MovingThings end = told(185, 4, 4);
        due(12, "till 199", end.visit(0, 4, 4, 4, 4, 0, true), 199);
        badPlaces(12, x);
        due(12, "thing is first", x.visit(10, 1, 0, 0, 0, -1, true), UNKNOWN);
    }

    static void far() {
        MovingThings x = told(0, 0, 0, 3, 1, 2);
        tell(x, 1, 0, 3, 4, 2, 3, 5);
        due(13, "whole", x.far(0, 1, 0, true), 25);
        due(13, "whole", x.far(0, 1, 0, false), 1);
        // (1/3, 2/3) and (3, 9/2): (8/3)^2 + (23/6)^2 = 785/36
        due(13, "fraction", x.far(0, 1, 1, true), 785);
        due(13, "fraction", x.far(0, 1, 1, false), 36);
        due(13, "the other way", x.far(1, 0, 1, true), 785);
        due(13, "to itself", x.far(0, 0, 1, true), 0);
        due(13, "to itself", x.far(0, 0, 1, false), 1);
        for (boolean upper : new boolean[] {true, false}) {
            due(13, "one is not there", x.far(0, 2, 1, upper), STATE);
            due(13, "one is not there", x.far(2, 0, 1, upper), STATE);
            due(13, "a", x.far(10, 0, 200, upper), UNKNOWN);
            due(13, "b", x.far(0, -1, 200, upper), UNKNOWN);
            due(13, "minute", x.far(0, 2, 200, upper), OUTSIDE);
            due(13, "minute", x.far(0, 1, -1, upper), OUTSIDE);
        }
        MovingThings wide = told(0, 0, 0, 1, 99, 99);
        tell(wide, 1, 0, 99, 99, 1, 0, 0);
        wide.kind(0, 1);
        wide.kind(1, 1);
        due(13, "farthest", wide.far(0, 1, 17, true), 2L * 3267 * 3267);
    }

    static void nearest() {
        MovingThings x = told(0, 50, 50);
        tell(x, 3, 0, 50, 60);
        tell(x, 1, 0, 60, 50);
        tell(x, 9, 0, 51, 51);
        tell(x, 5, 0, 99, 99);
        tell(x, 6, 1, 50, 50);
        int[] all = {9, 1, 3, 5};
        for (int k = 0; k < 4; k++) {
            due(14, "by far, like ones by number", x.nearest(0, 0, k), all[k]);
        }
        for (int k : new int[] {4, -1, LOW, HIGH}) {
            due(14, "not so many", x.nearest(0, 0, k), NONE);
        }
        due(14, "that of a later minute", x.nearest(0, 1, 0), 6);
        due(14, "it is not there", x.nearest(6, 0, 0), STATE);
        due(14, "minute", x.nearest(2, 200, 0), OUTSIDE);
        due(14, "minute", x.nearest(2, -1, 0), OUTSIDE);
        due(14, "thing", x.nearest(10, 200, 0), UNKNOWN);
        due(14, "thing", x.nearest(-1, 0, 0), UNKNOWN);
        // Fractions: 10/3 is nearer to 0 than 7/2.
        MovingThings close = told(0, 0, 0);
        tell(close, 1, 0, 0, 0, 2, 7, 0);
        tell(close, 2, 0, 0, 0, 3, 10, 0);
        due(14, "fractions", close.nearest(0, 1, 0), 2);
        due(14, "fractions", close.nearest(0, 1, 1), 1);
    }

    static MovingThings meeting() {
        MovingThings x = told(0, 0, 0, 10, 40, 0, 20, 0, 0);
        tell(x, 1, 0, 20, 3, 15, 20, 3, 30, 20, 3);
        return x;
    }

    static void badMeetings(int promise, MovingThings x) {
        for (int bad : new int[] {-1, 10, LOW, HIGH}) {
            due(promise, "a", meet(promise, x, bad, 0, 201), UNKNOWN);
            due(promise, "b", meet(promise, x, 0, bad, 201), UNKNOWN);
        }
        for (int bad : new int[] {-1, 201, LOW, HIGH}) {
            due(promise, "r", meet(promise, x, 0, 0, bad), OUTSIDE);
        }
        due(promise, "they are one", meet(promise, x, 3, 3, 0), STATE);
    }

    static int meet(int promise, MovingThings x, int a, int b, int r) {
        return promise == 15 ? x.meetings(a, b, r) : x.longest(a, b, r, true);
    }

    static void meetings() {
        MovingThings x = meeting();
        due(15, "just as far as r", x.meetings(0, 1, 3), 2);
        due(15, "not within r", x.meetings(0, 1, 2), 0);
        due(15, "with both ends", x.meetings(0, 1, 5), 2);
        due(15, "widest: one", x.meetings(0, 1, 200), 1);
        due(15, "the other way", x.meetings(1, 0, 5), 2);
        due(15, "one has no rows", x.meetings(0, 2, 200), 0);
        MovingThings same = told(5, 7, 7);
        tell(same, 1, 5, 7, 7);
        due(15, "r 0", same.meetings(0, 1, 0), 1);
        badMeetings(15, x);
    }

    static void longest() {
        MovingThings x = meeting();
        due(16, "of like ones the first", x.longest(0, 1, 5, false), 4);
        due(16, "minutes 4, 5, 6", x.longest(0, 1, 5, true), 3);
        due(16, "all, till 16 behind", x.longest(0, 1, 200, true), 37);
        due(16, "all", x.longest(0, 1, 200, false), 0);
        tell(x, 0, 36, 20, 0);
        due(16, "both stay at 20 from 36 to 46", x.longest(0, 1, 3, true), 11);
        due(16, "from the row", x.longest(0, 1, 3, false), 36);
        due(16, "there is none", x.longest(0, 1, 2, true), NONE);
        due(16, "there is none", x.longest(0, 1, 2, false), NONE);
        due(16, "none with a thing without rows", x.longest(5, 1, 200, false), NONE);
        badMeetings(16, x);
    }

    /** Five things with a leg each, of one size, side by side along x. */
    static MovingThings fiveAlong() {
        MovingThings x = new MovingThings();
        for (int i = 0; i < 5; i++) {
            tell(x, i, 0, 10 * i, 0, 1, 10 * i + 1, 1);
        }
        return x;
    }

    static void pages() {
        MovingThings x = new MovingThings();
        int[] empty = {0, 1, 1, 1};
        for (int what = 0; what < 4; what++) {
            due(17, "empty " + what, x.pages(what), empty[what]);
        }
        tell(x, 0, 0, 0, 0, 16, 0, 0, 33, 0, 0);
        due(17, "16 apart is a leg, 17 is not", x.pages(0), 1);
        MovingThings five = fiveAlong();
        int[] cut = {5, 3, 2, 2};
        for (int what = 0; what < 4; what++) {
            due(17, "five " + what, five.pages(what), cut[what]);
        }
        five.forget(4, 0);
        int[] four = {4, 1, 1, 1};
        for (int what = 0; what < 4; what++) {
            due(17, "made anew " + what, five.pages(what), four[what]);
        }
        for (int bad : new int[] {-1, 4, LOW, HIGH}) {
            due(17, "what", five.pages(bad), OUTSIDE);
        }
        MovingThings most = new MovingThings();
        for (int t = 0; t < 10; t++) {
            for (int i = 0; i < 24; i++) {
                most.say(t, 8 * i + t % 8, (37 * i + 11 * t) % 100, (53 * i + 29 * t) % 100);
            }
        }
        due(17, "all legs that can be", most.pages(0), 230);
        due(17, "leaves and forks", most.pages(1), 2 * most.pages(2) - 1);
        due(17, "all are found", most.opens(0, 99, 0, 99, 0, 199, true), 230);
        due(17, "all are opened", most.opens(0, 99, 0, 99, 0, 199, false), most.pages(1));
    }

    static void size() {
        MovingThings x = new MovingThings();
        due(18, "empty", x.size(), 0);
        tell(x, 0, 10, 5, 9, 12, 7, 5);
        due(18, "3 times 5 times 3", x.size(), 45);
        // Along x with 2: 12*2*2 and 22*2*2; with 3 the same sum; the first way stays.
        MovingThings five = fiveAlong();
        due(18, "five along x", five.size(), 48 + 88);
        due(18, "the first leaf has two", five.opens(0, 11, 0, 0, 0, 0, true), 2);
        due(18, "the next leaf begins at 20", five.opens(12, 19, 0, 0, 0, 0, false), 1);
        tell(five, 5, 0, 15, 0, 1, 16, 1);
        due(18, "grows as much: the first", five.size(), 68 + 88);
        due(18, "the first leaf goes to 16", five.opens(12, 14, 0, 0, 0, 0, false), 2);
        five.say(0, 1, 1, 0);
        due(18, "mended: made anew", five.size(), 68 + 88);
        five.thinned(5, 99);
        five.forget(5, 1);
        due(18, "forgotten: made anew", five.size(), 48 + 88);
    }

    /** Things from 0 on with a leg each, begun at that value along one axis, at 0 along the others, 1 long. */
    static MovingThings along(int axis, int... values) {
        MovingThings x = new MovingThings();
        for (int i = 0; i < values.length; i++) {
            int[] at = {0, 0, 0};
            at[axis] = values[i];
            tell(x, i, at[2], at[0], at[1], at[2] + 1, at[0] + 1, at[1] + 1);
        }
        return x;
    }

    static void cuts() {
        for (int axis = 0; axis < 3; axis++) {
            due(18, "three and two along " + axis, along(axis, 50, 0, 52, 2, 4).size(), 24 + 16);
            due(18, "two and three along " + axis, along(axis, 50, 0, 52, 2, 54).size(), 16 + 24);
            due(18, "to the first: 8 more", along(axis, 0, 10, 20, 30, 40, 12).size(), 56 + 88);
            due(18, "to the next: 8 more", along(axis, 0, 10, 20, 30, 40, 18).size(), 48 + 96);
            due(18, "in the next: none more", along(axis, 0, 10, 20, 30, 40, 25).size(), 48 + 88);
            // Both leaves are cut again: 0 to 11, 14 to 19, 20 to 31, 40 to 47.
            MovingThings deep = along(axis, 0, 10, 20, 30, 40, 14, 16, 18, 44, 46);
            due(18, "cut again", deep.size(), 48 + 24 + 48 + 32);
            due(17, "cut again", deep.pages(1) * 100 + deep.pages(2) * 10 + deep.pages(3), 743);
        }
        // Only the next page is cut again: the first stays a leaf.
        MovingThings side = along(0, 0, 10, 20, 30, 40, 50, 60, 70);
        due(17, "deep on one side", side.pages(1) * 100 + side.pages(2) * 10 + side.pages(3), 533);
    }

    static void opens() {
        MovingThings x = new MovingThings();
        due(19, "an empty page is not opened", x.opens(-2000, 2000, -2000, 2000, 0, 199, false), 0);
        due(19, "no legs", x.opens(-2000, 2000, -2000, 2000, 0, 199, true), 0);
        MovingThings five = fiveAlong();
        due(19, "a corner touches", five.opens(-5, 0, -5, 0, 0, 0, false), 2);
        due(19, "a corner touches", five.opens(-5, 0, -5, 0, 0, 0, true), 1);
        due(19, "far corner", five.opens(41, 50, 1, 1, 1, 199, true), 1);
        due(19, "beside x", five.opens(42, 50, 0, 1, 0, 1, false), 0);
        due(19, "beside y", five.opens(0, 50, 2, 9, 0, 1, false), 0);
        due(19, "beside the minutes", five.opens(0, 50, 0, 1, 2, 9, false), 0);
        due(19, "page touched, no leg", five.opens(2, 9, 0, 1, 0, 1, false), 2);
        due(19, "page touched, no leg", five.opens(2, 9, 0, 1, 0, 1, true), 0);
        due(19, "all", five.opens(0, 50, 0, 1, 0, 1, true), 5);
        // A leg's box touches where its line does not.
        MovingThings slant = told(0, 0, 0, 10, 10, 10);
        due(19, "the box touches", slant.opens(9, 10, 0, 1, 0, 10, true), 1);
        badPlaces(19, five);
        int[][] minutes = {{-1, 5}, {0, 200}, {6, 5}, {LOW, HIGH}, {200, 200}};
        for (int[] m : minutes) {
            due(19, "minutes", five.opens(0, 0, 0, 0, m[0], m[1], false), OUTSIDE);
        }
        due(19, "edges of minutes", five.opens(0, 0, 0, 0, 0, 199, true), 1);
    }

    static void badThins(int promise, MovingThings x) {
        for (int bad : new int[] {-1, 10, LOW, HIGH}) {
            due(promise, "thing", thinBy(promise, x, bad, 100), UNKNOWN);
        }
        for (int bad : new int[] {-1, 100, LOW, HIGH}) {
            due(promise, "error", thinBy(promise, x, 0, bad), OUTSIDE);
        }
    }

    static int thinBy(int promise, MovingThings x, int thing, int error) {
        return promise == 20 ? x.thin(thing, error) : promise == 21 ? x.kept(thing, error, 0) : x.thinned(thing, error);
    }

    static void thin() {
        MovingThings x = told(0, 0, 0, 4, 1, 10, 8, 0, 20, 12, 1, 30, 16, 0, 40, 17, 0, 40);
        due(20, "error 0: y is even, x is not", x.thin(0, 0), 6);
        due(20, "error 1, 16 apart at most", x.thin(0, 1), 3);
        due(20, "widest error", x.thin(0, 99), 3);
        due(20, "none", x.thin(1, 0), 0);
        tell(x, 1, 5, 5, 5);
        due(20, "one", x.thin(1, 0), 1);
        tell(x, 1, 100, 5, 5);
        due(20, "two far apart", x.thin(1, 99), 2);
        tell(x, 1, 117, 5, 5);
        due(20, "as they stood", x.thin(1, 99), 3);
        MovingThings half = told(0, 0, 0, 1, 1, 0, 2, 1, 0);
        due(20, "half away", half.thin(0, 0), 3);
        due(20, "half away", half.thin(0, 1), 2);
        MovingThings y = told(0, 0, 9, 1, 0, 6, 2, 0, 9);
        due(20, "three away in y", y.thin(0, 2), 3);
        due(20, "three away in y", y.thin(0, 3), 2);
        badThins(20, x);
    }

    static void kept() {
        MovingThings x = told(0, 0, 0, 8, 0, 0, 12, 0, 0, 16, 0, 0, 24, 0, 0);
        int[] first = {0, 1, 4};
        for (int i = 0; i < 3; i++) {
            due(21, "of like ones the first by numbers", x.kept(0, 0, i), first[i]);
        }
        for (int i : new int[] {-1, 3, LOW, HIGH}) {
            due(21, "none", x.kept(0, 0, i), NONE);
        }
        due(21, "a thing without rows", x.kept(1, 0, 0), NONE);
        due(21, "nothing is forgotten", x.count(0), 5);
        badThins(21, x);
    }

    static void thinned() {
        // From 8 to 24 the row at 12 is 5/4 away, so that of 8 goes and that of 12 stays.
        MovingThings x = told(0, 0, 0, 8, 1, 0, 12, 0, 1, 16, 0, 0, 24, 2, 0);
        badThins(22, x);
        due(22, "two go", x.thinned(0, 1), 2);
        int[] minutes = {0, 12, 24};
        for (int i = 0; i < 3; i++) {
            due(22, "what is left", x.row(0, i, 0), minutes[i]);
        }
        due(22, "x and y of what is left", x.row(0, 1, 1) * 10 + x.row(0, 1, 2), 1);
        due(22, "x and y of what is left", x.row(0, 2, 1) * 10 + x.row(0, 2, 2), 20);
        due(22, "no more rows", x.row(0, 3, 0), UNKNOWN);
        due(22, "nothing more goes", x.thinned(0, 1), 0);
        due(22, "legs are made anew", x.pages(0), 2);
        due(22, "a thing without rows", x.thinned(5, 0), 0);
        due(22, "none of this is mended", x.mended(), 0);
    }

    static void pass() {
        MovingThings x = new MovingThings();
        for (int bad : new int[] {0, -1, 101, LOW, HIGH}) {
            due(23, "n", x.pass(bad), OUTSIDE);
        }
        due(23, "one", x.pass(1), 1);
        due(23, "most", x.pass(100), 101);
        due(23, "above 199", x.pass(99), FULL);
        due(23, "nothing changed", x.count(4), 101);
        due(23, "199", x.pass(98), 199);
        due(23, "outside is ahead of full", x.pass(101), OUTSIDE);
        due(23, "full", x.pass(1), FULL);
    }

    static void stand() {
        MovingThings x = new MovingThings();
        for (int i = 0; i < 6; i++) {
            badPlaces(24, x);
            due(24, "its number", x.stand(-2000, 2000, i, i), i);
        }
        due(24, "six at most", x.stand(0, 0, 0, 0), FULL);
        badPlaces(24, x);
        due(24, "six", x.count(3), 6);
        x.say(0, 5, 5, 3);
        for (int i = 0; i < 6; i++) {
            due(24, "each keeps its place", x.changes(i, 5), i == 3 ? 1 : 0);
        }
    }

    static MovingThings standing() {
        MovingThings x = told(0, 0, 0, 10, 30, 60);
        tell(x, 1, 5, 15, 80);
        tell(x, 8, 0, 15, 0, 4, 15, 0, 21, 15, 0);
        x.stand(10, 20, 0, 99);
        x.stand(0, 99, 0, 50);
        return x;
    }

    static void changes() {
        MovingThings x = standing();
        int[][] due = {{0, 1}, {1, 0}, {3, 0}, {4, 1}, {5, 2}, {6, 0}, {7, 1}, {21, 1}, {22, 1}, {38, 1}, {199, 0}};
        for (int[] one : due) {
            due(25, "at " + one[0], x.changes(0, one[0]), one[1]);
        }
        due(25, "ahead of minute 0 none is", x.changes(1, 0), 2);
        for (int bad : new int[] {-1, 2, LOW, HIGH}) {
            due(25, "stand", x.changes(bad, 200), UNKNOWN);
        }
        for (int bad : new int[] {-1, 200, LOW, HIGH}) {
            due(25, "minute", x.changes(0, bad), OUTSIDE);
        }
    }

    static void change() {
        MovingThings x = standing();
        due(26, "comes", x.change(0, 4, 0), 100);
        due(26, "comes", x.change(0, 5, 0), 101);
        due(26, "is no more there", x.change(0, 5, 1), 8);
        due(26, "leaves", x.change(0, 7, 0), 0);
        due(26, "at minute 0", x.change(1, 0, 0), 100);
        due(26, "at minute 0", x.change(1, 0, 1), 108);
        for (int i : new int[] {-1, 2, LOW, HIGH}) {
            due(26, "none", x.change(0, 5, i), NONE);
        }
        due(26, "stand is first", x.change(2, 200, -1), UNKNOWN);
        due(26, "stand", x.change(-1, 0, 0), UNKNOWN);
        due(26, "minute is ahead of i", x.change(0, 200, -1), OUTSIDE);
        due(26, "minute", x.change(0, -1, 0), OUTSIDE);
    }

    static void still() {
        MovingThings x = standing();
        due(27, "not in till 3", x.still(0, 0), 3);
        due(27, "in till 8", x.still(1, 0), 8);
        due(27, "never in", x.still(0, 5), 199);
        x.pass(4);
        due(27, "in till 6", x.still(0, 0), 2);
        due(27, "changes next", x.still(0, 1), 0);
        due(27, "not in it ever", x.still(1, 1), 195);
        x.pass(100);
        x.pass(95);
        due(27, "nothing behind 199", x.still(0, 0), 0);
        for (int bad : new int[] {-1, 10, LOW, HIGH}) {
            due(27, "stand", x.still(bad, 0), UNKNOWN);
            due(27, "thing", x.still(0, bad), UNKNOWN);
        }
        due(27, "stand", x.still(2, 0), UNKNOWN);
    }

    /** So many rows in each column, told of several things. */
    static MovingThings loaded(int... loads) {
        MovingThings x = new MovingThings();
        int told = 0;
        for (int column = 0; column < loads.length; column++) {
            for (int i = 0; i < loads[column]; i++) {
                x.say(told / 24, told % 24, 10 * column + i % 10, 0);
                told++;
            }
        }
        return x;
    }

    static void load() {
        MovingThings x = told(0, 0, 50, 1, 9, 50, 2, 10, 50, 3, 99, 50);
        x.say(3, 0, 90, 0);
        int[] due = {2, 1, 0, 0, 0, 0, 0, 0, 0, 2};
        for (int c = 0; c < 10; c++) {
            due(28, "column " + c, x.load(c), due[c]);
        }
        x.forget(0, 0);
        due(28, "forgotten", x.load(0), 1);
        for (int bad : new int[] {-1, 10, LOW, HIGH}) {
            due(28, "column", x.load(bad), OUTSIDE);
        }
    }

    static void share() {
        MovingThings x = loaded(3, 1, 4, 1, 5, 9, 2, 6, 5, 3);
        int[] due = {39, 23, 14, 14, 9};
        for (int m = 1; m <= 5; m++) {
            due(29, m + " machines", x.share(m), due[m - 1]);
        }
        due(29, "no rows", new MovingThings().share(3), 0);
        for (int bad : new int[] {0, -1, 6, LOW, HIGH}) {
            due(29, "machines", x.share(bad), OUTSIDE);
        }
        MovingThings one = loaded(0, 0, 0, 0, 240);
        due(29, "all in one column", one.share(5), 240);
    }

    static void gets() {
        MovingThings x = loaded(3, 1, 4, 1, 5, 9, 2, 6, 5, 3);
        // 4 machines can do no better than 3, so the first of them gets none.
        int[][] due = {{10}, {6, 4}, {5, 2, 3}, {0, 5, 2, 3}, {3, 2, 1, 2, 2}};
        for (int m = 1; m <= 5; m++) {
            for (int i = 0; i < m; i++) {
                due(30, "of " + m + " machine " + i, x.gets(m, i), due[m - 1][i]);
            }
        }
        MovingThings none = new MovingThings();
        due(30, "nothing told: the first gets none", none.gets(3, 0), 0);
        due(30, "nothing told: the last gets all", none.gets(3, 2), 10);
        MovingThings ends = loaded(2, 0, 0, 0, 0, 0, 0, 0, 0, 2);
        due(30, "as few as can be", ends.gets(2, 0), 1);
        due(30, "none, then one", ends.gets(3, 0) * 100 + ends.gets(3, 1) * 10 + ends.gets(3, 2), 19);
        due(30, "machine is ahead of none", ends.gets(2, -1), OUTSIDE);
        for (int bad : new int[] {0, -1, 6, LOW, HIGH}) {
            due(30, "machines", x.gets(bad, 0), OUTSIDE);
            due(30, "machine", x.gets(5, bad == 0 ? 5 : bad), OUTSIDE);
        }
    }

    static void badBlurs(int promise, MovingThings x) {
        int[][] bad = {{0, 0}, {-1, 0}, {21, 0}, {5, 5}, {5, -1}, {LOW, LOW}, {HIGH, 0}, {20, HIGH}};
        for (int[] b : bad) {
            if (promise == 31) {
                due(31, "blur", x.blur(0, 0, b[0], b[1], false), OUTSIDE);
            } else {
                due(32, "first blur", x.together(0, 0, b[0], b[1], 5, 0), OUTSIDE);
                due(32, "other blur", x.together(0, 0, 5, 0, b[0], b[1]), OUTSIDE);
            }
        }
        for (int none : new int[] {-1, 10, LOW, HIGH}) {
            due(promise, "thing", promise == 31 ? x.blur(none, 0, 0, 0, true) : x.together(none, 0, 0, 0, 0, 0), UNKNOWN);
            due(promise, "row", promise == 31 ? x.blur(0, none, 0, 0, true) : x.together(0, none, 0, 0, 0, 0), UNKNOWN);
        }
    }

    static void blur() {
        MovingThings x = told(0, 30, 99);
        due(31, "u", x.blur(0, 0, 7, 3, false), 4);
        due(31, "v", x.blur(0, 0, 7, 3, true), 14);
        due(31, "b 1", x.blur(0, 0, 1, 0, true), 99);
        due(31, "b 20", x.blur(0, 0, 20, 0, false), 1);
        due(31, "greatest shift", x.blur(0, 0, 20, 19, false), 2);
        due(31, "no such row", x.blur(0, 1, 7, 3, false), UNKNOWN);
        badBlurs(31, x);
    }

    static void together() {
        MovingThings x = told(0, 30, 60, 1, 0, 99);
        due(32, "2 by 5", x.together(0, 0, 7, 3, 5, 0), 10);
        due(32, "the other way", x.together(0, 0, 5, 0, 7, 3), 10);
        due(32, "the same twice", x.together(0, 0, 20, 0, 20, 0), 400);
        due(32, "half each", x.together(0, 0, 20, 0, 20, 10), 100);
        due(32, "exact", x.together(0, 0, 1, 0, 20, 19), 1);
        // x: -19 .. 0 is 0 alone; y: 81 .. 100 is cut at 99.
        due(32, "cut at both edges", x.together(0, 1, 20, 19, 20, 19), 19);
        due(32, "no such row", x.together(0, 2, 7, 3, 5, 0), UNKNOWN);
        badBlurs(32, x);
    }

    static void count() {
        MovingThings x = standing();
        int[] due = {6, 3, 2, 2, 0};
        for (int what = 0; what < 5; what++) {
            due(33, "what " + what, x.count(what), due[what]);
        }
        x.pass(5);
        due(33, "there at the minute", x.count(2), 2);
        due(33, "the minute", x.count(4), 5);
        x.forget(1, 0);
        due(33, "rows", x.count(0), 5);
        due(33, "things with rows", x.count(1), 2);
        due(33, "there", x.count(2), 1);
        for (int bad : new int[] {-1, 5, LOW, HIGH}) {
            due(33, "what", x.count(bad), OUTSIDE);
        }
    }
}
