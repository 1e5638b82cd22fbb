import java.util.List;

/** The document's terms, sentence by sentence: the edges that each names, reckoned by hand. */
public final class TermTest {
    static final int UNKNOWN = Check.UNKNOWN, OUTSIDE = Check.OUTSIDE, STATE = Check.STATE, FULL = Check.FULL;
    static final int NONE = Check.NONE, LOW = Check.LOW, HIGH = Check.HIGH;

    static void says(String quote) {
        Check.says("terms", quote);
    }

    static void due(String what, long got, long want) {
        Check.due(what, got, want);
    }

    static MovingThings told(int... rows) {
        return Scene.told(rows);
    }

    static MovingThings tell(MovingThings x, int thing, int... rows) {
        return Scene.tell(x, thing, rows);
    }

    static MovingThings goingOn(int... rows) {
        MovingThings x = told(rows);
        x.kind(0, 1);
        return x;
    }

    static void fraction(String what, MovingThings x, int minute, boolean y, int above, int below) {
        due(what + ", above", x.at(0, minute, y, true), above);
        due(what + ", below", x.at(0, minute, y, false), below);
    }

    public static void main(String[] args) {
        use();
        refusals();
        rows();
        there();
        goesOn();
        places();
        visits();
        near();
        pages();
        growing();
        cutting();
        cutsAlike();
        asks();
        thinning();
        fewest();
        stands();
        columns();
        sharing();
        blurs();
        coverAll();
        Check.end();
    }

    static void coverAll() {
        for (String quote : Check.quoted) {
            Check.must(Doc.whole().contains(quote.substring(quote.indexOf('|') + 1)), "not in the document: " + quote);
        }
        for (String sentence : Doc.termSentences()) {
            boolean held = Check.quoted.stream().anyMatch(q -> sentence.contains(q.substring(q.indexOf('|') + 1)));
            Check.must(held, "no test of its own: " + sentence);
        }
    }

    // ---- the object

    /** The same rows are told over and over: 240 stay, the others are mended. */
    static MovingThings after(int calls) {
        MovingThings x = new MovingThings();
        for (int i = 0; i < calls; i++) {
            x.say(i % 10, i / 10 % 24 * 8, i % 100, i / 7 % 100);
        }
        return x;
    }

    static void use() {
        says("An object is used for at most 512 calls after it has been made");
        due("call 512, rows", after(511).count(0), 240);
        due("call 512, mended", after(511).mended(), 271);
        due("call 512, legs", after(511).pages(0), 230);
        due("call 512, a row", after(511).say(0, 0, 1, 1), 24);
        due("call 512, full", after(511).say(0, 1, 1, 1), FULL);
        says("what later calls answer is free");
        MovingThings later = after(5000);
        due("a later call answers at all", later.count(4) == LOW ? 1 : 0, 0);
    }

    static void refusals() {
        says("REFUSALS, of several the first that a call names");
        MovingThings full = Scene.full();
        due("unknown ahead of outside", full.say(10, 200, 100, 100), UNKNOWN);
        due("unknown ahead of outside, state", full.meetings(10, 10, 201), UNKNOWN);
        due("outside ahead of state", full.at(1, 200, false, true), OUTSIDE);
        due("outside ahead of state", full.meetings(3, 3, 201), OUTSIDE);
        due("outside ahead of full", full.say(0, 1, 100, 0), OUTSIDE);
        due("outside ahead of full", full.pass(101), OUTSIDE);
        due("outside ahead of full", full.stand(1, 0, 0, 0), OUTSIDE);
        says("UNKNOWN (there is no such THING, ROW, STAND)");
        due("thing", full.there(10, 0), UNKNOWN);
        due("row", full.row(0, 24, 0), UNKNOWN);
        due("row of a thing that has none", full.row(1, 0, 0), UNKNOWN);
        due("stand", full.changes(6, 0), UNKNOWN);
        due("a thing without rows is one", full.there(9, 0), 0);
        says("OUTSIDE (another number is not as told)");
        due("minute", full.there(0, 200), OUTSIDE);
        due("what", full.row(0, 0, 3), OUTSIDE);
        says("STATE (as told), FULL");
        due("state", full.at(1, 0, true, true), STATE);
        due("full", full.say(0, 1, 0, 0), FULL);
        says("What is refused changes nothing");
        refuseOneOfEach(full);
        due("as it was", Scene.seen(full).equals(Scene.seen(Scene.full())) ? 1 : 0, 1);
        says("NONE is -900009");
        due("constant", MovingThings.NONE, -900009);
        due("answer", new MovingThings().who(0, 0, 0, 0, 0, 0), -900009);
        fractions();
    }

    static void refuseOneOfEach(MovingThings full) {
        due("say", full.say(0, 3, 50, 50), FULL);
        due("say at a row's minute", full.say(0, 8, 50, 100), OUTSIDE);
        due("forget", full.forget(0, 24), UNKNOWN);
        due("kind", full.kind(0, 2), OUTSIDE);
        due("thinned", full.thinned(0, 100), OUTSIDE);
        due("pass", full.pass(1), FULL);
        due("stand", full.stand(0, 0, 0, 0), FULL);
        due("stand", full.stand(0, -1, 0, 0), OUTSIDE);
    }

    static void fractions() {
        says("FRACTIONS are told above (upper = true), below (1 and more), in least terms");
        MovingThings x = goingOn(0, 0, 10, 12, 8, 4);
        fraction("nothing", x, 0, false, 0, 1);
        fraction("whole", x, 3, false, 2, 1);
        fraction("4/6", x, 1, false, 2, 3);
        fraction("16/6", x, 4, false, 8, 3);
        fraction("a half", x, 1, true, 19, 2);
        fraction("nothing by going on", x, 20, true, 0, 1);
        fraction("below 0: the sign is above", x, 21, true, -1, 2);
        fraction("below 0, whole", x, 24, true, -2, 1);
        fraction("sixteenths", told(0, 0, 0, 16, 99, 99), 15, false, 1485, 16);
        says("refusals of them are told likewise");
        for (boolean upper : new boolean[] {true, false}) {
            due("at", x.at(10, 0, true, upper), UNKNOWN);
            due("at", x.at(0, 200, true, upper), OUTSIDE);
            due("at", x.at(0, 29, true, upper), STATE);
            due("far", x.far(0, -1, 0, upper), UNKNOWN);
            due("far", x.far(0, 1, -1, upper), OUTSIDE);
            due("far", x.far(0, 1, 0, upper), STATE);
        }
    }

    // ---- 1

    static void rows() {
        says("THINGS 0 to 9");
        MovingThings x = new MovingThings();
        for (int thing = 0; thing < 10; thing++) {
            due("thing " + thing, x.say(thing, 0, 0, 0), 1);
        }
        for (int thing : new int[] {-1, 10, LOW, HIGH}) {
            due("thing " + thing, x.say(thing, 0, 0, 0), UNKNOWN);
        }
        due("ten have rows", x.count(1), 10);
        says("x, y (0 to 99 each) at a MINUTE (0 to 199)");
        for (int end : new int[] {0, 99}) {
            due("x", told().say(0, 5, end, 50), 1);
            due("y", told().say(0, 5, 50, end), 1);
        }
        for (int beyond : new int[] {-1, 100, LOW, HIGH}) {
            due("x", told().say(0, 5, beyond, 50), OUTSIDE);
            due("y", told().say(0, 5, 50, beyond), OUTSIDE);
        }
        due("minute", told().say(0, 0, 50, 50), 1);
        due("minute", told().say(0, 199, 50, 50), 1);
        for (int beyond : new int[] {-1, 200, LOW, HIGH}) {
            due("minute", told().say(0, beyond, 50, 50), OUTSIDE);
        }
        says("each THING has 24 at most");
        MovingThings full = Scene.full();
        due("one more", full.say(0, 199, 0, 0), FULL);
        due("one more between", full.say(0, 100, 0, 0), FULL);
        due("one more ahead of all", tell(told(), 0, minutesFrom(5, 24)).say(0, 4, 0, 0), FULL);
        due("24", full.count(0), 24);
        due("another thing", full.say(1, 100, 0, 0), 1);
        due("forgotten", full.forget(0, 23), 23);
        due("room for one", full.say(0, 199, 0, 0), 24);
        due("not for two", full.say(0, 198, 0, 0), FULL);
        rowOrder();
    }

    static int[] minutesFrom(int minute, int many) {
        int[] rows = new int[3 * many];
        for (int i = 0; i < many; i++) {
            rows[3 * i] = minute + i;
        }
        return rows;
    }

    static void rowOrder() {
        says("in order of MINUTES (numbers 0, 1, ..)");
        MovingThings back = new MovingThings();
        for (int i = 23; i >= 0; i--) {
            back.say(0, 8 * i, i, 99 - i);
        }
        for (int i = 0; i < 24; i++) {
            due("told from the end, row " + i, back.row(0, i, 0), 8 * i);
            due("its x", back.row(0, i, 1), i);
            due("its y", back.row(0, i, 2), 99 - i);
        }
        says("one told for a MINUTE that has one takes its place (it is MENDED)");
        for (int row : new int[] {0, 11, 23}) {
            due("though full, row " + row, back.say(0, 8 * row, 50, 60), 24);
            due("its minute", back.row(0, row, 0), 8 * row);
            due("its x", back.row(0, row, 1), 50);
            due("its y", back.row(0, row, 2), 60);
        }
        due("mended", back.mended(), 3);
        due("the same told again", back.say(0, 0, 50, 60), 24);
        due("mended too", back.mended(), 4);
        due("another thing's minute", back.say(1, 0, 50, 60), 1);
        due("is not mended", back.mended(), 4);
        says("A LEG: two ROWS of a THING one behind the other, 16 MINUTES apart at most");
        due("1 apart", told(0, 0, 0, 1, 0, 0).pages(0), 1);
        due("16 apart", told(0, 0, 0, 16, 0, 0).pages(0), 1);
        due("17 apart", told(0, 0, 0, 17, 0, 0).pages(0), 0);
        due("at the end of the minutes", told(183, 0, 0, 199, 0, 0).pages(0), 1);
        due("at the end of the minutes", told(182, 0, 0, 199, 0, 0).pages(0), 0);
        due("one row", told(0, 0, 0).pages(0), 0);
        due("rows of two things", tell(told(0, 0, 0), 1, 5, 0, 0).pages(0), 0);
        due("one between makes two", told(0, 0, 0, 16, 0, 0, 8, 0, 0).pages(0), 2);
        due("one between 32 apart makes two", told(0, 0, 0, 32, 0, 0, 16, 0, 0).pages(0), 2);
        due("most", tell(told(), 0, minutesFrom(176, 24)).pages(0), 23);
    }

    static void there() {
        says("at a ROW of it");
        MovingThings apart = told(0, 1, 2, 17, 3, 4, 199, 5, 6);
        for (int minute : new int[] {0, 17, 199}) {
            due("minute " + minute, apart.there(0, minute), 1);
        }
        says("between both ROWS of a LEG, straight and even from the one to the other (fractions)");
        MovingThings leg = told(10, 99, 0, 26, 0, 99);
        fraction("the first end", leg, 10, false, 99, 1);
        fraction("1 of 16", leg, 11, false, 1485, 16);
        fraction("half", leg, 18, false, 99, 2);
        fraction("15 of 16", leg, 25, false, 99, 16);
        fraction("15 of 16", leg, 25, true, 1485, 16);
        fraction("the last end", leg, 26, true, 99, 1);
        says("and for 16 MINUTES behind its last ROW");
        due("16 behind", leg.there(0, 42), 1);
        due("17 behind", leg.there(0, 43), 0);
        due("not behind one that is not its last", told(0, 0, 0, 17, 0, 0).there(0, 1), 0);
        due("till 199", told(190, 0, 0).there(0, 199), 1);
        due("till 199", told(183, 0, 0).there(0, 199), 1);
        due("not till 199", told(182, 0, 0).there(0, 199), 0);
        says("it STANDS where it was (KIND 0, as at first)");
        due("kind at first", leg.kind(0, 0), 0);
        fraction("1 behind", leg, 27, false, 0, 1);
        fraction("16 behind", leg, 42, true, 99, 1);
        says("Else it is not");
        due("no rows", leg.there(1, 0), 0);
        due("ahead of the first", leg.there(0, 9), 0);
        due("between rows 17 apart", apart.there(0, 1), 0);
        due("between rows 17 apart", apart.there(0, 16), 0);
        due("forgotten", leg.forget(0, 0) + leg.forget(0, 0) + leg.there(0, 26), 1);
    }

    static void goesOn() {
        says("or GOES ON (KIND 1) straight and even as in the LEG that ends there");
        MovingThings x = goingOn(10, 99, 0, 26, 0, 98);
        fraction("at its last row", x, 26, false, 0, 1);
        fraction("1 behind", x, 27, false, -99, 16);
        fraction("16 behind", x, 42, false, -99, 1);
        fraction("16 behind", x, 42, true, 196, 1);
        due("17 behind", x.there(0, 43), 0);
        fraction("within the leg as ever", x, 18, false, 99, 2);
        MovingThings fast = goingOn(182, 0, 99, 183, 99, 0);
        fraction("as far as can be", fast, 199, false, 1683, 1);
        fraction("as far as can be", fast, 199, true, -1584, 1);
        due("the last leg counts, not the one ahead", goingOn(0, 0, 0, 1, 50, 0, 3, 52, 0).at(0, 4, false, true), 53);
        says("(if there is one; else it stands)");
        fraction("one row", goingOn(10, 5, 6), 26, false, 5, 1);
        fraction("17 apart", goingOn(10, 5, 6, 27, 50, 60), 43, true, 60, 1);
        fraction("a leg ahead, 17 apart at last", goingOn(0, 0, 0, 1, 9, 9, 18, 50, 60), 34, true, 60, 1);
        fraction("16 apart goes on", goingOn(10, 5, 6, 26, 21, 60), 27, false, 22, 1);
        due("not between rows 17 apart", goingOn(0, 0, 0, 1, 9, 9, 18, 50, 60).there(0, 2), 0);
    }

    // ---- 2

    static void places() {
        says("(whole numbers, -2000 to 2000, to no less than from)");
        MovingThings x = told(0, 50, 60);
        due("widest", x.inside(-2000, 2000, -2000, 2000, 0), 1);
        due("one point", x.inside(50, 50, 60, 60, 0), 1);
        due("one point at the least", x.inside(-2000, -2000, -2000, -2000, 0), 0);
        due("one point at the most", x.inside(2000, 2000, 2000, 2000, 0), 0);
        int[][] beyond = {{-2001, 50, 60, 60}, {50, 2001, 60, 60}, {50, 50, -2001, 60}, {50, 50, 60, 2001},
            {51, 50, 60, 60}, {50, 50, 61, 60}, {2000, -2000, 60, 60}, {LOW, HIGH, 60, 60}, {50, 50, HIGH, LOW}};
        for (int[] p : beyond) {
            due("inside", x.inside(p[0], p[1], p[2], p[3], 0), OUTSIDE);
            due("stand", x.stand(p[0], p[1], p[2], p[3]), OUTSIDE);
        }
        says("its x and y are from .. to, both ends with them");
        due("x from", x.inside(50, 70, 0, 99, 0), 1);
        due("x from", x.inside(51, 70, 0, 99, 0), 0);
        due("x to", x.inside(30, 50, 0, 99, 0), 1);
        due("x to", x.inside(30, 49, 0, 99, 0), 0);
        due("y from", x.inside(0, 99, 60, 70, 0), 1);
        due("y from", x.inside(0, 99, 61, 70, 0), 0);
        due("y to", x.inside(0, 99, 30, 60, 0), 1);
        due("y to", x.inside(0, 99, 30, 59, 0), 0);
        MovingThings part = goingOn(0, 15, 0, 15, 0, 15);
        due("-1 and 16, gone on", part.inside(-1, -1, 16, 16, 16), 1);
        MovingThings slow = goingOn(0, 1, 1, 15, 0, 2);
        due("1/15 is above 0", slow.inside(0, 0, 0, 2, 14), 0);
        due("1/15 is below 1", slow.inside(1, 1, 0, 2, 14), 0);
        due("1/15 is from 0 to 1", slow.inside(0, 1, 0, 2, 14), 1);
        due("-1/15 is below 0", slow.inside(0, 1, 0, 3, 16), 0);
        due("-1/15 is from -1 to 0", slow.inside(-1, 0, 0, 3, 16), 1);
        due("y: 31/15 is above 2", slow.inside(-1, 0, 0, 2, 16), 0);
        says("if it is THERE then");
        due("17 behind", x.inside(-2000, 2000, -2000, 2000, 17), 0);
        due("16 behind", x.inside(-2000, 2000, -2000, 2000, 16), 1);
    }

    static void visits() {
        says("A VISIT: MINUTES one behind the other (0 to 199) in which it is IN, as many as can be");
        MovingThings ends = told(0, 5, 5, 199, 5, 5);
        due("two", ends.visits(0, 5, 5, 5, 5), 2);
        due("at 0", ends.visit(0, 5, 5, 5, 5, 0, false), 0);
        due("at 0 alone", ends.visit(0, 5, 5, 5, 5, 0, true), 0);
        due("at 199", ends.visit(0, 5, 5, 5, 5, 1, false), 199);
        due("at 199 alone", ends.visit(0, 5, 5, 5, 5, 1, true), 199);
        MovingThings all = new MovingThings();
        for (int minute = 0; minute < 200; minute += 15) {
            all.say(0, minute, 5, 5);
        }
        due("from 0 to 199 it is one", all.visits(0, 5, 5, 5, 5), 1);
        due("from 0", all.visit(0, 5, 5, 5, 5, 0, false), 0);
        due("to 199", all.visit(0, 5, 5, 5, 5, 0, true), 199);
        MovingThings zigzag = new MovingThings();
        for (int i = 0; i < 24; i++) {
            zigzag.say(0, 100 + i, i % 2, 0);
        }
        due("every other minute", zigzag.visits(0, 0, 0, 0, 0), 12);
        due("the last of them", zigzag.visit(0, 0, 0, 0, 0, 11, true), 122);
        due("the others, the last till 16 behind", zigzag.visit(0, 1, 1, 0, 0, 11, true), 139);
        due("all of them are one", zigzag.visits(0, 0, 1, 0, 0), 1);
        due("next to each other but not of one leg", told(0, 5, 5, 17, 5, 5, 18, 5, 5).visits(0, 5, 5, 5, 5), 2);
        due("passed between two minutes", told(0, 0, 0, 1, 9, 0).visits(0, 4, 5, 0, 0), 0);
    }

    // ---- 3

    static void near() {
        says("FAR of two THINGS that are THERE: the square of the way between them");
        MovingThings x = tell(told(0, 0, 0), 1, 0, 99, 99);
        due("from corner to corner", x.far(0, 1, 0, true), 19602);
        due("16 behind", x.far(0, 1, 16, true), 19602);
        due("17 behind", x.far(0, 1, 17, true), STATE);
        due("the same place", tell(told(0, 7, 7), 1, 0, 7, 7).far(0, 1, 0, true), 0);
        due("the same place, below", tell(told(0, 7, 7), 1, 0, 7, 7).far(0, 1, 0, false), 1);
        says("all others that are THERE, by FAR, of like ones by number");
        due("no others", told(0, 5, 5).nearest(0, 0, 0), NONE);
        MovingThings ten = new MovingThings();
        for (int thing = 9; thing >= 0; thing--) {
            ten.say(thing, 0, 50, 50);
        }
        for (int k = 0; k < 9; k++) {
            due("like ones " + k, ten.nearest(4, 0, k), k < 4 ? k : k + 1);
        }
        due("nine others", ten.nearest(4, 0, 9), NONE);
        MovingThings falling = new MovingThings();
        for (int thing = 0; thing < 10; thing++) {
            falling.say(thing, 0, 99 - 10 * thing, 0);
        }
        falling.say(0, 0, 0, 0);
        for (int k = 0; k < 9; k++) {
            due("the last is the nearest, " + k, falling.nearest(0, 0, k), 9 - k);
        }
        MovingThings close = tell(tell(told(0, 0, 0), 1, 0, 0, 0, 2, 7, 0), 2, 0, 0, 0, 3, 10, 0);
        due("10/3 ahead of 7/2", close.nearest(0, 1, 0), 2);
        due("7/2", close.nearest(0, 1, 1), 1);
        // 1 of 2 and 2 of 4 are like ones, though told over other numbers; 3 of 5 is nearer.
        MovingThings halves = tell(tell(told(0, 1, 0), 7, 0, 0, 0, 2, 1, 0), 3, 0, 0, 0, 4, 2, 0);
        tell(halves, 9, 0, 0, 0, 5, 3, 0);
        due("3/5", halves.nearest(0, 1, 0), 9);
        due("1/2", halves.nearest(0, 1, 1), 3);
        due("2/4", halves.nearest(0, 1, 2), 7);
        meetings();
    }

    static void meetings() {
        says("A MEETING of two THINGS within r (0 to 200)");
        MovingThings x = tell(told(0, 7, 7), 1, 0, 7, 7);
        due("r 0, one place", x.meetings(0, 1, 0), 1);
        due("r 200", x.meetings(0, 1, 200), 1);
        for (int r : new int[] {-1, 201, LOW, HIGH}) {
            due("r " + r, x.meetings(0, 1, r), OUTSIDE);
        }
        due("r 0, next to it", tell(told(0, 7, 7), 1, 0, 7, 8).meetings(0, 1, 0), 0);
        says("both are THERE and FAR is r times r at most, as many as can be");
        // Thing 0 stands at 99; thing 1 goes 7 back each minute and is at -101 at minute 16.
        MovingThings back = tell(told(1, 99, 0), 1, 0, 11, 0, 1, 4, 0);
        back.kind(1, 1);
        due("200 away at 16", back.longest(0, 1, 200, true), 16);
        due("199 away no more", back.longest(0, 1, 199, true), 15);
        due("from 1, as 0 is not there at 0", back.longest(0, 1, 200, false), 1);
        MovingThings part = tell(told(0, 0, 0), 1, 0, 4, 0, 2, 5, 0);
        due("9/2 is more than 4", part.longest(0, 1, 4, true), 1);
        due("9/2 is less than 5", part.longest(0, 1, 5, true), 17);
        MovingThings ends = tell(told(0, 1, 1, 199, 1, 1), 1, 0, 1, 1, 199, 1, 1);
        due("at 0 and at 199", ends.meetings(0, 1, 0), 2);
        due("of like ones the first", ends.longest(0, 1, 0, false), 0);
        due("one apart is one meeting", tell(told(198, 1, 1, 199, 1, 1), 1, 198, 1, 1, 199, 1, 1).meetings(0, 1, 0), 1);
    }

    // ---- 4

    static void pagesAre(String what, MovingThings x, int legs, int pages, int leaves, int deep) {
        due(what + ", legs", x.pages(0), legs);
        due(what + ", pages", x.pages(1), pages);
        due(what + ", leaves", x.pages(2), leaves);
        due(what + ", how deep", x.pages(3), deep);
    }

    static void pages() {
        says("PAGES are made anew from all LEGS, THING by THING, each in order");
        // The six same legs; it shows in the sizes which of them came first.
        due("in one order", Scene.along(0, 0, 50, 98, 2, 52, 96).size(), 16 + 200);
        due("in another", Scene.along(0, 98, 96, 50, 52, 0, 2).size(), 216 + 16);
        int[] values = {0, 50, 98, 2, 52, 96};
        MovingThings back = new MovingThings();
        for (int i = 5; i >= 0; i--) {
            tell(back, i, 1, values[i] + 1, 1, 0, values[i], 0);
        }
        due("told from the end", back.size(), 16 + 200);
        back.forget(0, 0);
        back.say(0, 0, 0, 0);
        due("forgotten and told anew", back.size(), 16 + 200);
        back.forget(3, 0);
        pagesAre("five are left", back, 5, 3, 2, 2);
        back.forget(0, 0);
        pagesAre("four are left", back, 4, 1, 1, 1);
        MovingThings line = told(0, 0, 0, 1, 1, 0, 2, 2, 0);
        pagesAre("two on a line", line, 2, 1, 1, 1);
        line.thinned(0, 0);
        pagesAre("thinned", line, 1, 1, 1, 1);
        line.say(0, 2, 9, 9);
        due("mended", line.size(), 10 * 10 * 3);
        says("A LEG's BOX: all from its ends");
        due("forward", told(0, 2, 3, 4, 7, 11).size(), 6 * 9 * 5);
        due("back", told(0, 7, 11, 4, 2, 3).size(), 6 * 9 * 5);
        due("mixed", told(0, 7, 3, 4, 2, 11).size(), 6 * 9 * 5);
        says("A BOX has the SIZE (x from .. to, and 1) times (y ..) times (MINUTES ..)");
        due("least", told(5, 5, 5, 6, 5, 5).size(), 2);
        due("of one leg the greatest", told(0, 0, 0, 16, 99, 99).size(), 170000);
        MovingThings wide = told(0, 0, 0, 1, 99, 99, 198, 0, 0, 199, 0, 0);
        due("the greatest of a leaf", wide.size(), 2000000);
        says("A page is a LEAF (up to 4 LEGS) or a FORK of two pages");
        pagesAre("4 legs", Scene.along(0, 0, 10, 20, 30), 4, 1, 1, 1);
        pagesAre("5 legs", Scene.along(0, 0, 10, 20, 30, 40), 5, 3, 2, 2);
        says("its BOX is the least that holds all that is in it");
        due("a leaf's", Scene.along(1, 10, 20, 12).size(), 2 * 12 * 2);
        MovingThings fork = Scene.along(1, 10, 20, 30, 40, 50);
        due("a fork's", fork.opens(0, 0, 0, 10, 0, 0, false), 2);
        due("ahead of a fork's", fork.opens(0, 0, 0, 9, 0, 0, false), 0);
        due("behind a fork's", fork.opens(0, 0, 52, 99, 0, 0, false), 0);
        says("The first page is an empty LEAF");
        pagesAre("new", new MovingThings(), 0, 1, 1, 1);
        due("its size", new MovingThings().size(), 0);
        MovingThings none = told(0, 0, 0, 17, 99, 99);
        pagesAre("rows, no legs", none, 0, 1, 1, 1);
        due("its size", none.size(), 0);
        MovingThings gone = told(0, 0, 0, 16, 99, 99);
        due("a leg", gone.pages(0), 1);
        gone.forget(0, 0);
        pagesAre("the leg is forgotten", gone, 0, 1, 1, 1);
        due("its size", gone.size(), 0);
    }

    static void growing() {
        says("from a FORK on to that of its two pages whose SIZE grows least by it, of like ones the first");
        for (int axis = 0; axis < 3; axis++) {
            // Leaves from 0 to 11 and from 20 to 41.
            due("4 against 6: the first", Scene.along(axis, 0, 10, 20, 30, 40, 14).size(), 64 + 88);
            MovingThings alike = Scene.along(axis, 0, 10, 20, 30, 40, 15);
            int[] from = {0, 0, 0}, to = {1, 1, 1};
            from[axis] = 12;
            to[axis] = 14;
            due("both by 5: the first", alike.opens(from[0], to[0], from[1], to[1], from[2], to[2], false), 2);
            from[axis] = 17;
            to[axis] = 19;
            due("both by 5: not the next", alike.opens(from[0], to[0], from[1], to[1], from[2], to[2], false), 1);
            due("6 against 4: the next", Scene.along(axis, 0, 10, 20, 30, 40, 16).size(), 48 + 104);
            due("none at all: the first", Scene.along(axis, 0, 10, 20, 30, 40, 5).size(), 48 + 88);
            due("none at all: the next", Scene.along(axis, 0, 10, 20, 30, 40, 40).size(), 48 + 88);
        }
        says("(an empty one has SIZE 0)");
        due("the first leg grows it from 0", told(0, 3, 3, 1, 3, 3).size(), 2);
        due("empty", told(0, 3, 3).size(), 0);
    }

    /** Legs of things from 0 on, all from 50 - k to 50 + k, so that all sums are alike. */
    static MovingThings around(int... ks) {
        MovingThings x = new MovingThings();
        for (int i = 0; i < ks.length; i++) {
            tell(x, i, 0, 50 - ks[i], 0, 1, 50 + ks[i], 0);
        }
        return x;
    }

    static void cutting() {
        says("A LEAF that has five is CUT: its LEGS are put in order along x, y, or MINUTES");
        for (int axis = 0; axis < 3; axis++) {
            due("two and three along " + axis, Scene.along(axis, 54, 0, 50, 2, 52).size(), 16 + 24);
            due("three and two along " + axis, Scene.along(axis, 52, 4, 50, 0, 2).size(), 24 + 16);
        }
        says("by the sum of both ends of their BOXES");
        // By their starts 20 .. 23 would be next to 30 .. 31; by sums 43 and 61 it is not the long one, 0 .. 60.
        MovingThings x = tell(told(0, 0, 0, 1, 60, 0), 1, 0, 20, 0, 1, 23, 0);
        tell(tell(tell(x, 2, 0, 30, 0, 1, 31, 0), 3, 0, 1, 0, 1, 2, 0), 4, 0, 70, 0, 1, 71, 0);
        // Sums 60, 43, 61, 3, 141: 3, 1 | 0, 2, 4: 23 and 72; 3, 1, 0 | 2, 4: 61 and 42.
        due("by sums", x.size(), 2 * (23 + 72));
        says("of like ones that which came to the pages first");
        due("in the order they came", around(1, 2, 10, 11, 12).size(), 2 * (5 + 25));
        due("in another order", around(10, 1, 2, 11, 12).size(), 2 * (21 + 25));
        due("the three first", around(1, 10, 10, 2, 2).size(), 2 * (21 + 5));
        // Things 2 and 3 make the first leaf; the next one holds 0, 4, 1 in that order, then 5 and 6, and is cut
        // best along minutes, where all are alike, into 0, 1 | 4, 5, 6: not into 0, 4 | 1, 5, 6.
        int[][] starts = {{10, 10}, {20, 10}, {0, 10}, {0, 10}, {10, 30}, {10, 20}, {10, 0}};
        MovingThings twice = new MovingThings();
        for (int i = 0; i < starts.length; i++) {
            tell(twice, i, 0, starts[i][0], starts[i][1], 1, starts[i][0] + 1, starts[i][1]);
        }
        due("a page that was cut along x ahead of it", twice.size(), 4 + 24 + 124);
        says("the first 2 or the first 3 of them make one LEAF, the others another one");
        due("2 in the first", Scene.along(0, 0, 2, 50, 52, 54).opens(0, 3, 0, 0, 0, 0, true), 2);
        due("3 in the next", Scene.along(0, 0, 2, 50, 52, 54).opens(50, 55, 0, 0, 0, 0, true), 3);
        due("none is lost", Scene.along(0, 0, 2, 50, 52, 54).opens(0, 55, 0, 0, 0, 0, true), 5);
        due("never 1 and 4", Scene.along(0, 0, 90, 92, 94, 96).size(), 2 * 2 * (92 + 6));
        due("never 4 and 1", Scene.along(0, 0, 2, 4, 6, 90).size(), 2 * 2 * (4 + 88));
        says("The LEAF becomes a FORK of both");
        pagesAre("7 legs, three leaves", Scene.along(0, 0, 10, 20, 30, 40, 50, 60), 7, 5, 3, 3);
        pagesAre("both leaves are cut", Scene.along(0, 0, 10, 20, 30, 40, 4, 6, 8, 35, 37), 10, 7, 4, 3);
    }

    static void cutsAlike() {
        says("of these six ways that with the least sum of SIZES, of like ones the first: x with 2, x with 3, y with 2");
        MovingThings five = Scene.along(0, 0, 10, 20, 30, 40);
        due("x with 2 ahead of x with 3", five.opens(12, 19, 0, 0, 0, 0, false), 1);
        // x rises as y falls: four ways are alike, x with 2 leaves 15, 25 free, y with 2 does not.
        MovingThings cross = new MovingThings();
        for (int i = 0; i < 5; i++) {
            tell(cross, i, 0, 10 * i, 40 - 10 * i, 1, 10 * i + 1, 41 - 10 * i);
        }
        due("x ahead of y", cross.opens(15, 15, 25, 25, 0, 0, false), 1);
        due("their sizes", cross.size(), 2 * (12 * 12 + 22 * 22));
        // y rises as the minutes fall; along x they stand as they came, which is worse.
        MovingThings late = new MovingThings();
        int[] came = {0, 4, 2, 1, 3};
        for (int i = 0; i < 5; i++) {
            int c = came[i];
            tell(late, i, 40 - 10 * c, 0, 10 * c, 41 - 10 * c, 1, 10 * c + 1);
        }
        due("y ahead of minutes", late.opens(0, 1, 15, 15, 25, 25, false), 1);
        due("their sizes", late.size(), 2 * (12 * 12 + 22 * 22));
    }

    static void asks() {
        says("if its BOX touches it (has a point in common; an empty one does not)");
        MovingThings x = told(10, 20, 30, 12, 22, 32);
        int[][] touch = {{0, 20, 0, 30, 0, 10}, {22, 99, 32, 99, 12, 199}, {21, 21, 31, 31, 11, 11},
            {-2000, 2000, -2000, 2000, 0, 199}};
        int[][] beside = {{0, 19, 0, 99, 0, 199}, {23, 99, 0, 99, 0, 199}, {0, 99, 0, 29, 0, 199},
            {0, 99, 33, 99, 0, 199}, {0, 99, 0, 99, 0, 9}, {0, 99, 0, 99, 13, 199}};
        for (boolean legs : new boolean[] {false, true}) {
            for (int[] p : touch) {
                due("touches", x.opens(p[0], p[1], p[2], p[3], p[4], p[5], legs), 1);
            }
            for (int[] p : beside) {
                due("beside it", x.opens(p[0], p[1], p[2], p[3], p[4], p[5], legs), 0);
            }
            due("empty", new MovingThings().opens(-2000, 2000, -2000, 2000, 0, 199, legs), 0);
            due("rows, no leg", told(0, 0, 0).opens(-2000, 2000, -2000, 2000, 0, 199, legs), 0);
        }
        says("and of each FORK that is OPENED each of its pages whose BOX does");
        // Leaves 0 to 11 and, cut again, 20 to 31, 40 to 61.
        MovingThings side = Scene.along(0, 0, 10, 20, 30, 40, 50, 60);
        due("the first leaf", side.opens(11, 11, 0, 1, 0, 1, false), 2);
        due("between", side.opens(12, 19, 0, 1, 0, 1, false), 1);
        due("a leaf of the fork", side.opens(20, 31, 0, 1, 0, 1, false), 3);
        due("the fork, none of its leaves", side.opens(32, 39, 0, 1, 0, 1, false), 2);
        due("the last leaf", side.opens(61, 61, 0, 1, 0, 1, false), 3);
        due("all", side.opens(11, 40, 0, 1, 0, 1, false), 5);
        due("legs that touch", side.opens(11, 40, 0, 1, 0, 1, true), 4);
    }

    // ---- 5

    static void thinning() {
        says("TO THIN a THING within an ERROR (0 to 99)");
        MovingThings spike = told(0, 0, 0, 1, 99, 0, 2, 0, 0);
        due("99 away, error 99", spike.thin(0, 99), 2);
        due("99 away, error 98", spike.thin(0, 98), 3);
        due("error 0", spike.thin(0, 0), 3);
        for (int error : new int[] {-1, 100, LOW, HIGH}) {
            due("error " + error, spike.thin(0, error), OUTSIDE);
            due("error " + error, spike.kept(0, error, 0), OUTSIDE);
            due("error " + error, spike.thinned(0, error), OUTSIDE);
        }
        says("ROWS are KEPT, the first and the last of them");
        due("none", told().thin(0, 99), 0);
        due("one", told(5, 5, 5).thin(0, 99), 1);
        due("two", told(5, 5, 5, 6, 5, 5).thin(0, 99), 2);
        due("first", spike.kept(0, 99, 0), 0);
        due("last", spike.kept(0, 99, 1), 2);
        says("one behind the other 16 MINUTES apart at most or as they stood one behind the other");
        due("16 apart", told(0, 0, 0, 8, 0, 0, 16, 0, 0).thin(0, 99), 2);
        due("17 apart", told(0, 0, 0, 8, 0, 0, 17, 0, 0).thin(0, 99), 3);
        due("as they stood", told(0, 0, 0, 100, 0, 0, 199, 0, 0).thin(0, 99), 3);
        due("legs, then 17 apart", told(0, 0, 0, 8, 0, 0, 16, 0, 0, 33, 0, 0).thin(0, 0), 3);
        due("17 apart, then legs", told(0, 0, 0, 17, 0, 0, 25, 0, 0, 33, 0, 0).thin(0, 0), 3);
        says("each ROW that is not kept is ERROR away at most, in x and in y");
        due("5 away in x", told(0, 0, 0, 1, 5, 0, 2, 0, 0).thin(0, 5), 2);
        due("5 away in x", told(0, 0, 0, 1, 5, 0, 2, 0, 0).thin(0, 4), 3);
        due("5 away in y, below", told(0, 0, 9, 1, 0, 4, 2, 0, 9).thin(0, 5), 2);
        due("5 away in y, below", told(0, 0, 9, 1, 0, 4, 2, 0, 9).thin(0, 4), 3);
        due("5 away in both", told(0, 0, 0, 1, 5, 5, 2, 0, 0).thin(0, 5), 2);
        due("1/2 away", told(0, 0, 0, 1, 1, 0, 2, 1, 0).thin(0, 0), 3);
        due("1/2 away", told(0, 0, 0, 1, 1, 0, 2, 1, 0).thin(0, 1), 2);
        due("17/16 away", told(0, 0, 0, 1, 2, 0, 16, 15, 0).thin(0, 1), 3);
        due("16/16 away", told(0, 0, 0, 1, 2, 0, 16, 16, 0).thin(0, 1), 2);
        MovingThings middle = told(0, 0, 0, 1, 0, 0, 2, 9, 0, 3, 0, 0, 4, 0, 0);
        due("the middle one of three is 9 away", middle.thin(0, 9), 2);
        due("the middle one of three is 9 away", middle.thin(0, 8), 3);
        due("so it stays", middle.kept(0, 8, 1), 2);
    }

    static void fewest() {
        says("The fewest; of like ones the first by numbers");
        // 0 reaches 8 and 12 and 16, each of which reaches 24.
        MovingThings x = told(0, 0, 0, 8, 0, 0, 12, 0, 0, 16, 0, 0, 24, 0, 0);
        due("three", x.thin(0, 0), 3);
        due("the first by numbers", x.kept(0, 0, 1), 1);
        due("the last", x.kept(0, 0, 2), 4);
        due("no more", x.kept(0, 0, 3), NONE);
        // 0 reaches row 2, from which no row can be left out; row 1 reaches the last.
        MovingThings trap = told(0, 2, 0, 4, 1, 0, 8, 2, 0, 12, 0, 0, 16, 1, 0);
        due("to go as far as can be is not the fewest", trap.thin(0, 1), 3);
        due("so the nearer row stays", trap.kept(0, 1, 1), 1);
        due("thinned", trap.thinned(0, 1), 2);
        due("what is left", trap.row(0, 1, 0), 4);
    }

    // ---- 6

    static void stands() {
        says("THE MINUTE is 0 at first");
        due("new", new MovingThings().count(4), 0);
        due("first pass", new MovingThings().pass(1), 1);
        says("STANDS 0, 1, .. (6 at most) are PLACES");
        MovingThings x = new MovingThings();
        for (int i = 0; i < 6; i++) {
            due("stand " + i, x.stand(i, i, -2000, 2000), i);
            due("not yet", x.changes(i + 1, 0), UNKNOWN);
        }
        due("a seventh", x.stand(0, 0, 0, 0), FULL);
        due("still 6", x.count(3), 6);
        due("no number 6", x.changes(6, 0), UNKNOWN);
        x.say(0, 0, 5, 5);
        for (int i = 0; i < 6; i++) {
            due("place of stand " + i, x.changes(i, 0), i == 5 ? 1 : 0);
        }
        says("THINGS that are IN it just then or just the MINUTE ahead, not both (ahead of MINUTE 0 none is)");
        MovingThings in = told(0, 5, 5, 16, 5, 5);
        tell(tell(in, 1, 0, 6, 6, 1, 0, 0), 2, 198, 5, 5, 199, 0, 0);
        tell(in, 3, 199, 5, 5);
        in.stand(5, 6, 5, 6);
        int[][] due = {{0, 2}, {1, 1}, {2, 0}, {16, 0}, {32, 0}, {33, 1}, {197, 0}, {198, 1}, {199, 2}};
        for (int[] one : due) {
            due("at " + one[0], in.changes(0, one[0]), one[1]);
        }
        due("at 0", in.change(0, 0, 0), 100);
        due("at 0", in.change(0, 0, 1), 101);
        due("left at 1", in.change(0, 1, 0), 1);
        due("no more there at 33", in.change(0, 33, 0), 0);
        due("left at 199", in.change(0, 199, 0), 2);
        due("came at 199", in.change(0, 199, 1), 103);
        still();
    }

    static void still() {
        says("STILL: how many MINUTES behind THE MINUTE in which a THING is IN, or not, as it is at THE MINUTE");
        MovingThings x = told(3, 5, 5);
        x.stand(5, 5, 5, 5);
        due("not in till 2", x.still(0, 0), 2);
        x.pass(2);
        due("in next", x.still(0, 0), 0);
        x.pass(1);
        due("in for 16 more", x.still(0, 0), 16);
        x.pass(16);
        due("in for the last time", x.still(0, 0), 0);
        x.pass(1);
        due("never more", x.still(0, 0), 179);
        says("one behind the other (till 199)");
        due("without rows", x.still(0, 1), 179);
        due("a new object", standing().still(0, 0), 199);
        MovingThings last = standing();
        last.say(0, 199, 5, 5);
        due("in at 199", last.still(0, 0), 198);
        last.pass(99);
        last.pass(100);
        due("nothing behind 199", last.still(0, 0), 0);
        due("nothing behind 199", last.still(0, 1), 0);
        MovingThings in = standing();
        in.say(0, 190, 5, 5);
        in.pass(100);
        in.pass(90);
        due("in till 199", in.still(0, 0), 9);
    }

    static MovingThings standing() {
        MovingThings x = new MovingThings();
        x.stand(5, 5, 5, 5);
        return x;
    }

    // ---- 7

    static MovingThings loaded(int... loads) {
        MovingThings x = new MovingThings();
        int told = 0;
        for (int column = 0; column < loads.length; column++) {
            for (int i = 0; i < loads[column]; i++) {
                x.say(told / 24, told % 24, 10 * column + i % 10, 99);
                told++;
            }
        }
        return x;
    }

    static void columns() {
        says("COLUMNS 0 to 9: ROWS of x 0 to 9, 10 to 19, ..");
        for (int column = 0; column < 10; column++) {
            MovingThings x = told(0, 10 * column, 0, 1, 10 * column + 9, 99);
            for (int other = 0; other < 10; other++) {
                due("column " + other, x.load(other), other == column ? 2 : 0);
            }
        }
        due("no column", told().load(-1), OUTSIDE);
        due("no column", told().load(10), OUTSIDE);
        says("LOAD: how many ROWS");
        due("none", told().load(0), 0);
        due("all that can be", loaded(240).load(0), 240);
        MovingThings x = told(0, 5, 5);
        x.say(0, 0, 15, 5);
        due("mended", x.load(0) * 10 + x.load(1), 1);
        says("MACHINES (1 to 5) get COLUMNS from 0 on, each some one behind the other, or none");
        due("1", x.gets(1, 0), 10);
        for (int machines = 1; machines <= 5; machines++) {
            int sum = 0;
            for (int machine = 0; machine < machines; machine++) {
                sum += x.gets(machines, machine);
            }
            due("all columns are given out", sum, 10);
        }
        for (int machines : new int[] {0, -1, 6, LOW, HIGH}) {
            due("machines", x.share(machines), OUTSIDE);
            due("machines", x.gets(machines, 0), OUTSIDE);
        }
        due("one row: the first of two gets none", x.gets(2, 0), 0);
    }

    static void gets(String what, MovingThings x, int... parts) {
        for (int machine = 0; machine < parts.length; machine++) {
            due(what + ", machine " + machine, x.gets(parts.length, machine), parts[machine]);
        }
    }

    static void sharing() {
        says("THE SHARING: the greatest LOAD is least");
        MovingThings even = loaded(1, 1, 1, 1, 1, 1, 1, 1, 1, 1);
        int[] greatest = {10, 5, 4, 3, 2};
        for (int machines = 1; machines <= 5; machines++) {
            due(machines + " machines", even.share(machines), greatest[machines - 1]);
        }
        due("no rows", told().share(5), 0);
        due("one heavy column", loaded(0, 0, 0, 240).share(5), 240);
        due("heavy at both ends", loaded(120, 0, 0, 0, 0, 0, 0, 0, 0, 120).share(2), 120);
        says("of like ones the first machine gets as few COLUMNS as can be, then the next");
        gets("even, 2", even, 5, 5);
        gets("even, 3", even, 2, 4, 4);
        gets("even, 4", even, 1, 3, 3, 3);
        gets("even, 5", even, 2, 2, 2, 2, 2);
        gets("no rows", told(), 0, 0, 0, 0, 10);
        gets("one heavy column", loaded(0, 0, 0, 240), 0, 0, 0, 0, 10);
        gets("the first column heavy", loaded(9, 1), 0, 1, 9);
        gets("the last column heavy", loaded(1, 0, 0, 0, 0, 0, 0, 0, 0, 9), 0, 1, 9);
        gets("columns without rows", loaded(0, 5, 0, 0, 5, 0, 0, 5), 2, 3, 5);
    }

    static void blurs() {
        says("A BLUR of b (1 to 20) and a SHIFT (0 to b less 1)");
        MovingThings x = told(0, 99, 0, 1, 0, 99, 2, 10, 10);
        due("b 1", x.blur(0, 0, 1, 0, false), 99);
        due("b 20, shift 19", x.blur(0, 0, 20, 19, false), 5);
        due("b 20, shift 0", x.blur(0, 0, 20, 0, false), 4);
        int[][] beyond = {{0, 0}, {21, 0}, {-1, 0}, {LOW, 0}, {HIGH, 0}, {1, 1}, {20, 20}, {20, -1}, {1, -1},
            {20, LOW}, {20, HIGH}};
        for (int[] b : beyond) {
            due("blur", x.blur(0, 0, b[0], b[1], false), OUTSIDE);
            due("together", x.together(0, 0, b[0], b[1], 1, 0), OUTSIDE);
            due("together", x.together(0, 0, 1, 0, b[0], b[1]), OUTSIDE);
        }
        says("tells of a place u = (x and SHIFT) by b, cut, and v likewise of y");
        due("9 by 10", told(0, 9, 0).blur(0, 0, 10, 0, false), 0);
        due("10 by 10", x.blur(0, 2, 10, 0, false), 1);
        due("19 by 10", x.blur(0, 2, 10, 9, false), 1);
        due("10 and 1 by 11", x.blur(0, 2, 11, 1, true), 1);
        due("10 and 0 by 11", x.blur(0, 2, 11, 0, true), 0);
        due("0", x.blur(0, 1, 20, 19, false), 0);
        due("v", x.blur(0, 1, 20, 1, true), 5);
        says("how many whole places (0 to 99 each way) agree with both");
        due("b 1 is one place", x.together(0, 0, 1, 0, 1, 0), 1);
        due("all of a cell", x.together(0, 2, 20, 0, 20, 0), 400);
        due("cut at 99 and at 0", x.together(0, 0, 20, 19, 20, 19), 19);
        due("cut at 0 and at 99", x.together(0, 1, 20, 19, 20, 19), 19);
        due("two cells", x.together(0, 2, 20, 0, 20, 10), 100);
        due("one within the other", x.together(0, 2, 20, 0, 2, 0), 4);
        due("the other way", x.together(0, 2, 2, 0, 20, 0), 4);
    }
}
