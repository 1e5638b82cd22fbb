import java.util.ArrayList;
import java.util.List;

/** Each refusal and each NONE that a promise names, and each edge beside them, in a test of its own. */
public final class ClauseTest {
    static final int UNKNOWN = Check.UNKNOWN, OUTSIDE = Check.OUTSIDE, STATE = Check.STATE, FULL = Check.FULL;
    static final int NONE = Check.NONE, LOW = Check.LOW, HIGH = Check.HIGH;
    /** Beyond 0 to 9, beyond 0 to 199, beyond 0 to 99, and beyond what there is of any index. */
    static final int[] NO_THING = {-1, 10, LOW, HIGH};
    static final int[] NO_MINUTE = {-1, 200, LOW, HIGH};
    static final int[] NO_ERROR = {-1, 100, LOW, HIGH};
    static final int[][] NO_PLACE = {{1, 0, 0, 0}, {0, 0, 1, 0}, {-2001, 0, 0, 0}, {0, 2001, 0, 0},
        {0, 0, -2001, 0}, {0, 0, 0, 2001}, {2001, 2001, 0, 0}, {0, 0, -2001, -2001}, {LOW, HIGH, LOW, HIGH}};
    static final int[][] NO_BLUR = {{0, 0}, {21, 0}, {-1, 0}, {5, 5}, {5, -1}, {1, 1}, {20, 20}, {LOW, LOW}, {HIGH, 0}};

    static void says(int promise, String quote) {
        Check.says("promise " + promise, quote);
    }

    static void due(String what, long got, long want) {
        Check.due(what, got, want);
    }

    static MovingThings told(int... rows) {
        return Scene.told(rows);
    }

    public static void main(String[] args) {
        newObject();
        say();
        forget();
        kind();
        row();
        at();
        there();
        mended();
        insideAndWho();
        visits();
        visit();
        far();
        nearest();
        meetings();
        longest();
        pages();
        opens();
        thin();
        kept();
        thinned();
        pass();
        stand();
        changes();
        change();
        still();
        load();
        share();
        gets();
        blur();
        together();
        count();
        coverAll();
        Check.end();
    }

    /** What is quoted stands in its promise, and no refusal of a promise goes without. */
    static void coverAll() {
        for (int promise = 1; promise <= Doc.PROMISES; promise++) {
            List<String> left = new ArrayList<>(Doc.refusals(promise));
            boolean any = false;
            for (String one : Check.quoted) {
                String quote = one.substring(one.indexOf('|') + 1);
                if (one.startsWith("promise " + promise + "|")) {
                    any = true;
                    left.remove(quote);
                    Check.must(Doc.promise(promise).contains(quote), "not in promise " + promise + ": " + quote);
                }
            }
            Check.must(any, "promise " + promise + " has no test of its own");
            Check.must(left.isEmpty(), "promise " + promise + " has no test of its own for " + left);
        }
    }

    static void newObject() {
        says(1, "No ROWS, no STANDS");
        MovingThings x = new MovingThings();
        due("rows", x.count(0), 0);
        due("things with rows", x.count(1), 0);
        due("things there", x.count(2), 0);
        due("stands", x.count(3), 0);
        due("a row", x.row(0, 0, 0), UNKNOWN);
        due("a stand", x.still(0, 0), UNKNOWN);
        due("inside", x.inside(-2000, 2000, -2000, 2000, 0), 0);
        due("load", x.load(0), 0);
        due("mended", x.mended(), 0);
        MovingThings other = told(0, 0, 0);
        due("of another object, rows", x.count(0), 0);
        due("which has its own", other.count(0), 1);
    }

    static void say() {
        says(2, "how many its THING has then");
        MovingThings x = new MovingThings();
        due("first", x.say(9, 199, 99, 99), 1);
        due("second, ahead of it", x.say(9, 0, 0, 0), 2);
        due("mended", x.say(9, 0, 99, 99), 2);
        due("of another thing", x.say(0, 0, 0, 0), 1);
        says(2, "UNKNOWN");
        for (int bad : NO_THING) {
            due("thing " + bad, x.say(bad, 0, 0, 0), UNKNOWN);
            due("ahead of outside", x.say(bad, -1, 100, 100), UNKNOWN);
        }
        says(2, "OUTSIDE");
        for (int bad : NO_MINUTE) {
            due("minute " + bad, x.say(0, bad, 0, 0), OUTSIDE);
        }
        for (int bad : NO_ERROR) {
            due("x " + bad, x.say(0, 0, bad, 0), OUTSIDE);
            due("y " + bad, x.say(0, 0, 0, bad), OUTSIDE);
        }
        says(2, "FULL: 24");
        MovingThings full = Scene.full();
        due("25", full.say(0, 199, 0, 0), FULL);
        due("nothing changed", full.count(0), 24);
        due("mended though full", full.say(0, 0, 1, 1), 24);
        due("outside ahead of it", full.say(0, 199, 0, 100), OUTSIDE);
    }

    static void forget() {
        says(3, "how many are left");
        MovingThings x = told(0, 1, 1, 8, 2, 2, 16, 3, 3, 24, 4, 4);
        due("the first", x.forget(0, 0), 3);
        due("then row 0 is", x.row(0, 0, 0), 8);
        due("the last", x.forget(0, 2), 2);
        due("then row 1 is", x.row(0, 1, 0), 16);
        says(3, "UNKNOWN: thing, row");
        for (int bad : NO_THING) {
            due("thing " + bad, x.forget(bad, 0), UNKNOWN);
        }
        for (int bad : new int[] {-1, 2, 24, LOW, HIGH}) {
            due("row " + bad, x.forget(0, bad), UNKNOWN);
        }
        due("a thing without rows", x.forget(9, 0), UNKNOWN);
        due("nothing changed", x.count(0), 2);
        due("one left", x.forget(0, 0), 1);
        due("none left", x.forget(0, 0), 0);
        due("no more", x.forget(0, 0), UNKNOWN);
        due("told anew", x.say(0, 8, 5, 5), 1);
        due("which is not mended", x.mended(), 0);
        says(3, "A ROW is forgotten");
        MovingThings full = Scene.full();
        due("of 24 the last", full.forget(0, 23), 23);
        due("it is no more", full.row(0, 23, 0), UNKNOWN);
        due("the next is as it was", full.row(0, 22, 0), 176);
    }

    static void kind() {
        says(4, "KIND of a THING: what it was");
        MovingThings x = new MovingThings();
        for (int thing : new int[] {0, 9}) {
            due("at first", x.kind(thing, 1), 0);
            due("1", x.kind(thing, 1), 1);
            due("1, then 0", x.kind(thing, 0), 1);
            due("0", x.kind(thing, 0), 0);
        }
        x.kind(3, 1);
        due("of one thing alone", x.kind(4, 0), 0);
        x.say(3, 0, 0, 0);
        x.forget(3, 0);
        due("stays without rows", x.kind(3, 1), 1);
        says(4, "UNKNOWN");
        for (int bad : NO_THING) {
            due("thing " + bad, x.kind(bad, 0), UNKNOWN);
            due("ahead of outside", x.kind(bad, 2), UNKNOWN);
        }
        says(4, "OUTSIDE");
        for (int bad : new int[] {-1, 2, LOW, HIGH}) {
            due("v " + bad, x.kind(3, bad), OUTSIDE);
        }
        due("nothing changed", x.kind(3, 1), 1);
    }

    static void row() {
        says(5, "MINUTE (what = 0), x (1), y (2) of a ROW");
        MovingThings x = told(199, 98, 97, 0, 1, 2);
        int[][] rows = {{0, 1, 2}, {199, 98, 97}};
        for (int row = 0; row < 2; row++) {
            for (int what = 0; what < 3; what++) {
                due("row " + row + ", " + what, x.row(0, row, what), rows[row][what]);
            }
        }
        says(5, "UNKNOWN");
        for (int bad : NO_THING) {
            due("thing " + bad, x.row(bad, 0, 0), UNKNOWN);
            due("ahead of outside", x.row(bad, 0, 3), UNKNOWN);
        }
        for (int bad : new int[] {-1, 2, 24, LOW, HIGH}) {
            due("row " + bad, x.row(0, bad, 0), UNKNOWN);
            due("ahead of outside", x.row(0, bad, 3), UNKNOWN);
        }
        due("a thing without rows", x.row(1, 0, 0), UNKNOWN);
        says(5, "OUTSIDE");
        for (int bad : new int[] {-1, 3, LOW, HIGH}) {
            due("what " + bad, x.row(0, 0, bad), OUTSIDE);
        }
    }

    static void at() {
        MovingThings x = told(0, 1, 2, 17, 3, 4);
        says(6, "UNKNOWN");
        for (int bad : NO_THING) {
            due("thing " + bad, x.at(bad, 0, false, true), UNKNOWN);
            due("ahead of outside", x.at(bad, 200, true, false), UNKNOWN);
        }
        says(6, "OUTSIDE: minute");
        for (int bad : NO_MINUTE) {
            due("minute " + bad, x.at(0, bad, false, true), OUTSIDE);
            due("ahead of state", x.at(1, bad, true, false), OUTSIDE);
        }
        says(6, "STATE: it is not THERE");
        for (boolean upper : new boolean[] {false, true}) {
            for (boolean y : new boolean[] {false, true}) {
                due("no rows", x.at(1, 0, y, upper), STATE);
                due("between", x.at(0, 1, y, upper), STATE);
                due("17 behind the last", x.at(0, 34, y, upper), STATE);
                due("at the end", x.at(0, 199, y, upper), STATE);
            }
            due("ahead of the first", told(1, 0, 0).at(0, 0, false, upper), STATE);
        }
        due("16 behind the last", x.at(0, 33, true, true), 4);
    }

    static void there() {
        MovingThings x = told(0, 1, 2, 17, 3, 4);
        says(7, "Whether a THING is THERE at a MINUTE: 1, 0");
        int[][] due = {{0, 1}, {1, 0}, {16, 0}, {17, 1}, {33, 1}, {34, 0}, {199, 0}};
        for (int[] one : due) {
            due("minute " + one[0], x.there(0, one[0]), one[1]);
        }
        due("no rows", x.there(9, 199), 0);
        says(7, "UNKNOWN");
        for (int bad : NO_THING) {
            due("thing " + bad, x.there(bad, 0), UNKNOWN);
            due("ahead of outside", x.there(bad, 200), UNKNOWN);
        }
        says(7, "OUTSIDE");
        for (int bad : NO_MINUTE) {
            due("minute " + bad, x.there(0, bad), OUTSIDE);
            due("minute, no rows", x.there(1, bad), OUTSIDE);
        }
    }

    static void mended() {
        says(8, "How many ROWS were MENDED so far");
        MovingThings x = Scene.full();
        due("none", x.mended(), 0);
        x.say(0, 1, 1, 1);
        due("full is not mended", x.mended(), 0);
        x.say(0, 0, 1, 100);
        due("outside is not mended", x.mended(), 0);
        x.say(0, 0, 1, 1);
        x.say(0, 184, 1, 1);
        due("two", x.mended(), 2);
        x.forget(0, 0);
        x.thinned(0, 99);
        due("what is forgotten or thinned stays counted", x.mended(), 2);
    }

    static void insideAndWho() {
        MovingThings x = Scene.wide();
        says(9, "How many THINGS are IN a PLACE at a MINUTE");
        due("none", x.inside(-2000, -1, -2000, 2000, 0), 0);
        due("all", x.inside(0, 90, 0, 9, 0), 10);
        due("all at 199", x.inside(0, 81, 90, 99, 199), 10);
        due("but the last", x.inside(0, 89, 0, 9, 0), 9);
        due("none is there", x.inside(-2000, 2000, -2000, 2000, 1), 0);
        says(9, "OUTSIDE");
        for (int[] p : NO_PLACE) {
            due("place", x.inside(p[0], p[1], p[2], p[3], 0), OUTSIDE);
            due("place of who", x.who(p[0], p[1], p[2], p[3], 0, 0), OUTSIDE);
        }
        for (int bad : NO_MINUTE) {
            due("minute " + bad, x.inside(0, 0, 0, 0, bad), OUTSIDE);
        }
        says(10, "NONE");
        for (int i : new int[] {10, -1, LOW, HIGH}) {
            due("of ten " + i, x.who(0, 90, 0, 9, 0, i), NONE);
        }
        due("of none", x.who(-2000, -1, 0, 0, 0, 0), NONE);
        due("no one is there", x.who(-2000, 2000, -2000, 2000, 1, 0), NONE);
        says(10, "The i-th THING of these");
        for (int i = 0; i < 10; i++) {
            due("of ten " + i, x.who(0, 90, 0, 9, 0, i), i);
        }
        due("of two the first", x.who(80, 90, 0, 9, 0, 0), 8);
        due("of two the last", x.who(80, 90, 0, 9, 0, 1), 9);
        says(10, "OUTSIDE");
        for (int[] p : NO_PLACE) {
            due("place, ahead of none", x.who(p[0], p[1], p[2], p[3], 0, -1), OUTSIDE);
        }
        for (int bad : NO_MINUTE) {
            due("minute " + bad, x.who(0, 90, 0, 9, bad, 0), OUTSIDE);
            due("ahead of none", x.who(0, 90, 0, 9, bad, -1), OUTSIDE);
        }
    }

    static void visits() {
        MovingThings x = told(0, 5, 5, 199, 5, 5);
        says(11, "How many VISITS of a PLACE a THING makes");
        due("two", x.visits(0, 5, 5, 5, 5), 2);
        due("none", x.visits(0, 6, 6, 5, 5), 0);
        due("no rows", x.visits(9, -2000, 2000, -2000, 2000), 0);
        says(11, "UNKNOWN");
        for (int bad : NO_THING) {
            due("thing " + bad, x.visits(bad, 0, 0, 0, 0), UNKNOWN);
            due("ahead of outside", x.visits(bad, 1, 0, 0, 0), UNKNOWN);
        }
        says(11, "OUTSIDE");
        for (int[] p : NO_PLACE) {
            due("place", x.visits(0, p[0], p[1], p[2], p[3]), OUTSIDE);
        }
    }

    static void visit() {
        MovingThings x = told(0, 5, 5, 190, 5, 5);
        for (boolean last : new boolean[] {false, true}) {
            says(12, "NONE");
            for (int i : new int[] {2, -1, LOW, HIGH}) {
                due("of two " + i, x.visit(0, 5, 5, 5, 5, i, last), NONE);
            }
            due("of none", x.visit(0, 6, 6, 5, 5, 0, last), NONE);
            due("no rows", x.visit(9, 5, 5, 5, 5, 0, last), NONE);
            says(12, "UNKNOWN");
            for (int bad : NO_THING) {
                due("thing " + bad, x.visit(bad, 5, 5, 5, 5, 0, last), UNKNOWN);
                due("ahead of outside", x.visit(bad, 1, 0, 0, 0, 0, last), UNKNOWN);
            }
            says(12, "OUTSIDE");
            for (int[] p : NO_PLACE) {
                due("place", x.visit(0, p[0], p[1], p[2], p[3], 0, last), OUTSIDE);
                due("ahead of none", x.visit(0, p[0], p[1], p[2], p[3], -1, last), OUTSIDE);
            }
        }
        says(12, "The first MINUTE (last = false) of VISIT i, the last one");
        due("first of 0", x.visit(0, 5, 5, 5, 5, 0, false), 0);
        due("last of 0", x.visit(0, 5, 5, 5, 5, 0, true), 0);
        due("first of 1", x.visit(0, 5, 5, 5, 5, 1, false), 190);
        due("last of 1", x.visit(0, 5, 5, 5, 5, 1, true), 199);
    }

    static void far() {
        MovingThings x = Scene.tell(told(0, 0, 0), 9, 0, 99, 99);
        for (boolean upper : new boolean[] {false, true}) {
            says(13, "UNKNOWN");
            for (int bad : NO_THING) {
                due("a " + bad, x.far(bad, 0, 0, upper), UNKNOWN);
                due("b " + bad, x.far(0, bad, 0, upper), UNKNOWN);
                due("ahead of outside", x.far(0, bad, 200, upper), UNKNOWN);
            }
            says(13, "OUTSIDE");
            for (int bad : NO_MINUTE) {
                due("minute " + bad, x.far(0, 9, bad, upper), OUTSIDE);
                due("ahead of state", x.far(1, 2, bad, upper), OUTSIDE);
            }
            says(13, "STATE: one is not THERE");
            due("a", x.far(1, 0, 0, upper), STATE);
            due("b", x.far(0, 1, 0, upper), STATE);
            due("both", x.far(1, 2, 0, upper), STATE);
            due("one twice", x.far(1, 1, 0, upper), STATE);
            due("17 behind", x.far(0, 9, 17, upper), STATE);
        }
        due("16 behind", x.far(0, 9, 16, true), 19602);
    }

    static void nearest() {
        MovingThings x = Scene.tell(told(0, 0, 0), 9, 0, 99, 99);
        says(14, "THE NEAREST number k (0 on)");
        due("0", x.nearest(0, 0, 0), 9);
        due("0", x.nearest(9, 0, 0), 0);
        says(14, "NONE: there are not so many");
        for (int k : new int[] {1, -1, LOW, HIGH}) {
            due("k " + k, x.nearest(0, 0, k), NONE);
        }
        due("nobody else", told(0, 0, 0).nearest(0, 0, 0), NONE);
        says(14, "UNKNOWN");
        for (int bad : NO_THING) {
            due("thing " + bad, x.nearest(bad, 0, 0), UNKNOWN);
            due("ahead of outside", x.nearest(bad, 200, -1), UNKNOWN);
        }
        says(14, "OUTSIDE: minute");
        for (int bad : NO_MINUTE) {
            due("minute " + bad, x.nearest(0, bad, 0), OUTSIDE);
            due("ahead of state", x.nearest(1, bad, 0), OUTSIDE);
        }
        says(14, "STATE: it is not THERE");
        due("no rows", x.nearest(1, 0, 0), STATE);
        due("ahead of none", x.nearest(1, 0, -1), STATE);
        due("17 behind", x.nearest(0, 17, 0), STATE);
        due("16 behind", x.nearest(0, 16, 0), 9);
    }

    static int meet(MovingThings x, boolean longest, int a, int b, int r) {
        return longest ? x.longest(a, b, r, false) : x.meetings(a, b, r);
    }

    static void refusedMeetings(int promise, String state) {
        boolean longest = promise == 16;
        MovingThings x = Scene.tell(told(0, 0, 0), 9, 0, 99, 99);
        says(promise, "UNKNOWN");
        for (int bad : NO_THING) {
            due("a " + bad, meet(x, longest, bad, 0, 0), UNKNOWN);
            due("b " + bad, meet(x, longest, 0, bad, 0), UNKNOWN);
            due("ahead of outside, state", meet(x, longest, bad, bad, 201), UNKNOWN);
        }
        says(promise, "OUTSIDE");
        for (int bad : new int[] {-1, 201, LOW, HIGH}) {
            due("r " + bad, meet(x, longest, 0, 9, bad), OUTSIDE);
            due("ahead of state", meet(x, longest, 0, 0, bad), OUTSIDE);
        }
        says(promise, state);
        due("0", meet(x, longest, 0, 0, 200), STATE);
        due("9", meet(x, longest, 9, 9, 0), STATE);
        due("without rows", meet(x, longest, 5, 5, 0), STATE);
    }

    static void meetings() {
        refusedMeetings(15, "STATE: they are one");
        says(15, "How many MEETINGS two THINGS have within r");
        MovingThings x = Scene.tell(told(0, 0, 0, 199, 0, 0), 9, 0, 3, 4, 199, 3, 4);
        due("r 5", x.meetings(0, 9, 5), 2);
        due("r 4", x.meetings(0, 9, 4), 0);
        due("r 0", x.meetings(0, 9, 0), 0);
        due("r 200", x.meetings(9, 0, 200), 2);
        due("never there", x.meetings(0, 5, 200), 0);
    }

    static void longest() {
        refusedMeetings(16, "STATE");
        MovingThings x = Scene.tell(told(0, 0, 0, 199, 0, 0), 9, 0, 3, 4, 199, 3, 4);
        says(16, "NONE: there is none");
        for (boolean length : new boolean[] {false, true}) {
            due("too far", x.longest(0, 9, 4, length), NONE);
            due("never there", x.longest(0, 5, 200, length), NONE);
        }
        says(16, "of like ones the first");
        due("first minute", x.longest(0, 9, 5, false), 0);
        due("one minute long", x.longest(0, 9, 5, true), 1);
        says(16, "The first MINUTE of the longest of them (length = false), how many MINUTES it has");
        Scene.tell(x, 0, 198, 0, 0);
        Scene.tell(x, 9, 198, 3, 4);
        due("two minutes at the end", x.longest(0, 9, 5, true), 2);
        due("from 198", x.longest(0, 9, 5, false), 198);
        MovingThings all = new MovingThings();
        for (int minute = 0; minute < 200; minute += 16) {
            all.say(0, minute, 0, 0);
            all.say(1, minute, 0, 0);
        }
        due("all minutes", all.longest(0, 1, 0, true), 200);
        due("from 0", all.longest(0, 1, 0, false), 0);
    }

    static void pages() {
        MovingThings x = Scene.wide();
        says(17, "OUTSIDE");
        for (int bad : new int[] {-1, 4, LOW, HIGH}) {
            due("what " + bad, x.pages(bad), OUTSIDE);
            due("of an empty page", new MovingThings().pages(bad), OUTSIDE);
        }
        says(17, "how deep it goes (3: one page: 1)");
        due("empty", new MovingThings().pages(3), 1);
        due("4 legs", Scene.along(0, 0, 10, 20, 30).pages(3), 1);
        due("5 legs", Scene.along(0, 0, 10, 20, 30, 40).pages(3), 2);
        due("7 legs", Scene.along(0, 0, 10, 20, 30, 40, 50, 60).pages(3), 3);
        says(17, "LEGS (what = 0), pages (1), LEAVES (2)");
        due("legs", x.pages(0), 10);
        due("pages", x.pages(1), 2 * x.pages(2) - 1);
        due("none", new MovingThings().pages(0), 0);
        due("one page", new MovingThings().pages(1), 1);
        due("one leaf", new MovingThings().pages(2), 1);
        says(18, "All LEAVES' SIZES together");
        due("empty", new MovingThings().size(), 0);
        due("one leaf", told(0, 0, 0, 1, 0, 0).size(), 2);
        due("two leaves", Scene.along(0, 0, 10, 20, 30, 40).size(), 48 + 88);
    }

    static void opens() {
        MovingThings x = told(0, 0, 0, 16, 99, 99);
        says(19, "OUTSIDE: place, minutes (0 to 199, to no less than from)");
        int[][] noMinutes = {{-1, 0}, {0, 200}, {200, 200}, {-1, -1}, {1, 0}, {199, 0}, {LOW, HIGH}, {HIGH, LOW}};
        for (boolean legs : new boolean[] {false, true}) {
            for (int[] p : NO_PLACE) {
                due("place", x.opens(p[0], p[1], p[2], p[3], 0, 199, legs), OUTSIDE);
            }
            for (int[] m : noMinutes) {
                due("minutes", x.opens(0, 0, 0, 0, m[0], m[1], legs), OUTSIDE);
            }
            due("of an empty page", new MovingThings().opens(0, 0, 0, 0, 1, 0, legs), OUTSIDE);
            due("0 to 199", x.opens(0, 0, 0, 0, 0, 199, legs), 1);
            due("to is from", x.opens(0, 0, 0, 0, 0, 0, legs), 1);
            due("to is from, at 199", x.opens(0, 0, 0, 0, 199, 199, legs), 0);
        }
        says(19, "how many LEGS in LEAVES that are OPENED touch it");
        MovingThings five = Scene.along(0, 0, 10, 20, 30, 40);
        due("a leaf is opened, no leg touches", five.opens(2, 9, 0, 1, 0, 1, true), 0);
        due("all", five.opens(0, 41, 0, 1, 0, 1, true), 5);
        due("by its box", x.opens(99, 99, 0, 0, 0, 16, true), 1);
    }

    static int thinBy(MovingThings x, int promise, int thing, int error) {
        return promise == 20 ? x.thin(thing, error)
            : promise == 21 ? x.kept(thing, error, -1) : x.thinned(thing, error);
    }

    static void refusedThinning(int promise) {
        MovingThings x = told(0, 0, 0, 1, 0, 0, 2, 0, 0);
        says(promise, "UNKNOWN");
        for (int bad : NO_THING) {
            due("thing " + bad, thinBy(x, promise, bad, 0), UNKNOWN);
            due("ahead of outside", thinBy(x, promise, bad, 100), UNKNOWN);
        }
        says(promise, "OUTSIDE");
        for (int bad : NO_ERROR) {
            due("error " + bad, thinBy(x, promise, 0, bad), OUTSIDE);
            due("a thing without rows", thinBy(x, promise, 9, bad), OUTSIDE);
        }
        due("nothing changed", x.count(0), 3);
    }

    static void thin() {
        refusedThinning(20);
        says(20, "(0: it has none.)");
        MovingThings x = told(5, 5, 5);
        due("none", x.thin(1, 0), 0);
        due("one", x.thin(0, 0), 1);
        due("forgotten", x.forget(0, 0), 0);
        due("none again", x.thin(0, 99), 0);
        says(20, "How many ROWS are KEPT, if a THING is THINNED");
        MovingThings full = Scene.full();
        due("24 on a line, 16 apart", full.thin(0, 0), 13);
        due("nothing is forgotten", full.count(0), 24);
    }

    static void kept() {
        refusedThinning(21);
        MovingThings x = told(0, 0, 0, 1, 0, 0, 2, 0, 0);
        says(21, "NONE");
        for (int i : new int[] {2, -1, LOW, HIGH}) {
            due("of two " + i, x.kept(0, 0, i), NONE);
        }
        due("without rows", x.kept(9, 0, 0), NONE);
        says(21, "The i-th ROW that is KEPT");
        due("0", x.kept(0, 0, 0), 0);
        due("1", x.kept(0, 0, 1), 2);
        due("of one row", told(5, 5, 5).kept(0, 99, 0), 0);
        due("of one row, no more", told(5, 5, 5).kept(0, 99, 1), NONE);
    }

    static void thinned() {
        refusedThinning(22);
        says(22, "It is THINNED: how many ROWS are forgotten");
        MovingThings x = told(0, 0, 0, 1, 0, 0, 2, 0, 0);
        due("one", x.thinned(0, 0), 1);
        due("two left", x.count(0), 2);
        due("row 1 is the last", x.row(0, 1, 0), 2);
        due("no row 2", x.row(0, 2, 0), UNKNOWN);
        due("none more", x.thinned(0, 99), 0);
        due("without rows", x.thinned(9, 0), 0);
        due("of one row", told(5, 5, 5).thinned(0, 99), 0);
        MovingThings full = Scene.full();
        due("of 24", full.thinned(0, 0), 11);
        due("room again", full.say(0, 199, 0, 0), 14);
    }

    static void pass() {
        says(23, "n MINUTES go by (1 to 100): THE MINUTE");
        MovingThings x = new MovingThings();
        due("1", x.pass(1), 1);
        due("100", x.pass(100), 101);
        says(23, "OUTSIDE");
        for (int bad : new int[] {0, -1, 101, LOW, HIGH}) {
            due("n " + bad, x.pass(bad), OUTSIDE);
        }
        due("nothing changed", x.count(4), 101);
        says(23, "FULL: above 199");
        due("200", x.pass(99), FULL);
        due("201", x.pass(100), FULL);
        due("nothing changed", x.count(4), 101);
        due("199", x.pass(98), 199);
        due("200", x.pass(1), FULL);
        due("outside ahead of it", x.pass(101), OUTSIDE);
        due("still 199", x.count(4), 199);
    }

    static void stand() {
        says(24, "A STAND: its number");
        MovingThings x = new MovingThings();
        due("0", x.stand(-2000, 2000, -2000, 2000), 0);
        due("the same place again", x.stand(-2000, 2000, -2000, 2000), 1);
        due("one point", x.stand(2000, 2000, -2000, -2000), 2);
        says(24, "OUTSIDE");
        for (int[] p : NO_PLACE) {
            due("place", x.stand(p[0], p[1], p[2], p[3]), OUTSIDE);
        }
        due("nothing changed", x.count(3), 3);
        says(24, "FULL: 6");
        for (int i = 3; i < 6; i++) {
            due("stand " + i, x.stand(0, 0, 0, 0), i);
        }
        due("a seventh", x.stand(0, 0, 0, 0), FULL);
        due("outside ahead of it", x.stand(1, 0, 0, 0), OUTSIDE);
        due("nothing changed", x.count(3), 6);
    }

    static MovingThings standing() {
        MovingThings x = Scene.tell(told(0, 5, 5), 9, 0, 6, 6);
        x.stand(0, 9, 0, 9);
        return x;
    }

    static void changes() {
        MovingThings x = standing();
        says(25, "How many CHANGES a STAND has at a MINUTE");
        due("at 0", x.changes(0, 0), 2);
        due("at 1", x.changes(0, 1), 0);
        due("at 16", x.changes(0, 16), 0);
        due("at 17", x.changes(0, 17), 2);
        due("at 199", x.changes(0, 199), 0);
        says(25, "UNKNOWN");
        for (int bad : new int[] {-1, 1, 6, LOW, HIGH}) {
            due("stand " + bad, x.changes(bad, 0), UNKNOWN);
            due("ahead of outside", x.changes(bad, 200), UNKNOWN);
        }
        says(25, "OUTSIDE");
        for (int bad : NO_MINUTE) {
            due("minute " + bad, x.changes(0, bad), OUTSIDE);
        }
    }

    static void change() {
        MovingThings x = standing();
        says(26, "The i-th THING of these, and 100 more if it is IN then");
        due("came", x.change(0, 0, 0), 100);
        due("came", x.change(0, 0, 1), 109);
        due("left", x.change(0, 17, 0), 0);
        due("left", x.change(0, 17, 1), 9);
        says(26, "NONE");
        for (int i : new int[] {2, -1, LOW, HIGH}) {
            due("of two " + i, x.change(0, 0, i), NONE);
        }
        due("of none", x.change(0, 1, 0), NONE);
        says(26, "UNKNOWN");
        for (int bad : new int[] {-1, 1, 6, LOW, HIGH}) {
            due("stand " + bad, x.change(bad, 0, 0), UNKNOWN);
            due("ahead of outside, none", x.change(bad, 200, -1), UNKNOWN);
        }
        says(26, "OUTSIDE");
        for (int bad : NO_MINUTE) {
            due("minute " + bad, x.change(0, bad, 0), OUTSIDE);
            due("ahead of none", x.change(0, bad, -1), OUTSIDE);
        }
    }

    static void still() {
        MovingThings x = standing();
        says(27, "STILL");
        due("in till 16", x.still(0, 0), 16);
        due("never in", x.still(0, 5), 199);
        says(27, "UNKNOWN: stand, thing");
        for (int bad : new int[] {-1, 1, 6, LOW, HIGH}) {
            due("stand " + bad, x.still(bad, 0), UNKNOWN);
        }
        for (int bad : NO_THING) {
            due("thing " + bad, x.still(0, bad), UNKNOWN);
        }
        due("no stands at all", new MovingThings().still(0, 0), UNKNOWN);
    }

    static void load() {
        MovingThings x = told(0, 9, 0, 1, 10, 0, 2, 99, 0);
        says(28, "LOAD of a COLUMN");
        due("0", x.load(0), 1);
        due("1", x.load(1), 1);
        due("8", x.load(8), 0);
        due("9", x.load(9), 1);
        says(28, "OUTSIDE");
        for (int bad : NO_THING) {
            due("column " + bad, x.load(bad), OUTSIDE);
        }
    }

    static void share() {
        MovingThings x = told(0, 9, 0, 1, 10, 0, 2, 99, 0);
        says(29, "The greatest LOAD of THE SHARING to so many MACHINES");
        int[] due = {3, 2, 1, 1, 1};
        for (int machines = 1; machines <= 5; machines++) {
            due("of " + machines, x.share(machines), due[machines - 1]);
            due("no rows", new MovingThings().share(machines), 0);
        }
        says(29, "OUTSIDE");
        for (int bad : new int[] {0, -1, 6, LOW, HIGH}) {
            due("machines " + bad, x.share(bad), OUTSIDE);
        }
    }

    static void gets() {
        MovingThings x = told(0, 9, 0, 1, 10, 0, 2, 99, 0);
        says(30, "How many COLUMNS a machine (0 on) gets in it");
        int[][] due = {{10}, {1, 9}, {1, 1, 8}, {0, 1, 1, 8}, {0, 0, 1, 1, 8}};
        for (int machines = 1; machines <= 5; machines++) {
            for (int machine = 0; machine < machines; machine++) {
                due(machine + " of " + machines, x.gets(machines, machine), due[machines - 1][machine]);
            }
        }
        says(30, "OUTSIDE: machines, machine");
        for (int bad : new int[] {0, -1, 6, LOW, HIGH}) {
            due("machines " + bad, x.gets(bad, 0), OUTSIDE);
        }
        for (int machines = 1; machines <= 5; machines++) {
            for (int bad : new int[] {machines, -1, 5, LOW, HIGH}) {
                due("machine " + bad + " of " + machines, x.gets(machines, bad), OUTSIDE);
            }
        }
    }

    static void blur() {
        MovingThings x = told(0, 99, 0, 1, 0, 99);
        says(31, "u (y = false), v of a BLUR for a ROW");
        due("u", x.blur(0, 0, 20, 19, false), 5);
        due("v", x.blur(0, 0, 20, 19, true), 0);
        due("u of the last row", x.blur(0, 1, 1, 0, false), 0);
        due("v of the last row", x.blur(0, 1, 1, 0, true), 99);
        says(31, "UNKNOWN");
        for (int bad : NO_THING) {
            due("thing " + bad, x.blur(bad, 0, 1, 0, true), UNKNOWN);
            due("ahead of outside", x.blur(bad, 0, 0, 0, true), UNKNOWN);
        }
        for (int bad : new int[] {-1, 2, LOW, HIGH}) {
            due("row " + bad, x.blur(0, bad, 1, 0, true), UNKNOWN);
            due("ahead of outside", x.blur(0, bad, 0, 0, true), UNKNOWN);
        }
        due("a thing without rows", x.blur(9, 0, 1, 0, false), UNKNOWN);
        says(31, "OUTSIDE: b, shift");
        for (int[] b : NO_BLUR) {
            due("u", x.blur(0, 0, b[0], b[1], false), OUTSIDE);
            due("v", x.blur(0, 0, b[0], b[1], true), OUTSIDE);
        }
    }

    static void together() {
        MovingThings x = told(0, 99, 0, 1, 0, 99);
        says(32, "TOGETHER, of a ROW");
        due("one place", x.together(0, 0, 1, 0, 20, 19), 1);
        due("the same twice", x.together(0, 1, 20, 0, 20, 0), 400);
        due("cut at the edges", x.together(0, 1, 20, 1, 20, 1), 19);
        says(32, "UNKNOWN");
        for (int bad : NO_THING) {
            due("thing " + bad, x.together(bad, 0, 1, 0, 1, 0), UNKNOWN);
            due("ahead of outside", x.together(bad, 0, 0, 0, 0, 0), UNKNOWN);
        }
        for (int bad : new int[] {-1, 2, LOW, HIGH}) {
            due("row " + bad, x.together(0, bad, 1, 0, 1, 0), UNKNOWN);
            due("ahead of outside", x.together(0, bad, 0, 0, 0, 0), UNKNOWN);
        }
        due("a thing without rows", x.together(9, 0, 1, 0, 1, 0), UNKNOWN);
        says(32, "OUTSIDE");
        for (int[] b : NO_BLUR) {
            due("b, shift", x.together(0, 0, b[0], b[1], 1, 0), OUTSIDE);
            due("other, other shift", x.together(0, 0, 1, 0, b[0], b[1]), OUTSIDE);
        }
    }

    static void count() {
        says(33, "0 all ROWS, 1 THINGS with ROWS, 2 THINGS that are THERE at THE MINUTE, 3 STANDS, 4 THE MINUTE");
        MovingThings full = Scene.full();
        int[] due = {24, 1, 1, 6, 199};
        for (int what = 0; what < 5; what++) {
            due("what " + what, full.count(what), due[what]);
        }
        MovingThings all = new MovingThings();
        for (int i = 0; i < 240; i++) {
            all.say(i % 10, i / 10, 0, 0);
        }
        due("all rows that can be", all.count(0), 240);
        due("all things", all.count(1), 10);
        due("all are there at 0", all.count(2), 10);
        all.pass(39);
        due("16 behind", all.count(2), 10);
        all.pass(1);
        due("17 behind", all.count(2), 0);
        says(33, "OUTSIDE");
        for (int bad : new int[] {-1, 5, LOW, HIGH}) {
            due("what " + bad, all.count(bad), OUTSIDE);
        }
    }
}
