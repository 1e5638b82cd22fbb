import java.util.ArrayList;
import java.util.Arrays;
import java.util.List;
import java.util.function.Supplier;
import java.util.function.ToIntFunction;

/** Every call with the edges of each of its numbers, and the next beyond them, in all ways together. */
public final class RefusalTest {
    static final int UNKNOWN = Check.UNKNOWN, OUTSIDE = Check.OUTSIDE, STATE = Check.STATE, FULL = Check.FULL;
    static final int LOW = Check.LOW, HIGH = Check.HIGH;
    /** With what it takes to make an object and to see all of it, under 512 calls. */
    static final int CALLS_OF_ONE = 240;

    static final int[] THINGS = {LOW, -1, 0, 9, 10, HIGH};
    static final int[] ROWS = {LOW, -1, 0, 2, 3, HIGH};
    static final int[] STANDS = {LOW, -1, 0, 2, 3, HIGH};
    static final int[] MINUTES = {LOW, -1, 0, 199, 200, HIGH};
    static final int[] SIDE = {LOW, -1, 0, 99, 100, HIGH};
    static final int[] PLACE = {LOW, -2001, -2000, 7, 2000, 2001, HIGH};
    static final int[] ERRORS = {LOW, -1, 0, 99, 100, HIGH};
    static final int[] INDEX = {LOW, -1, 0, HIGH};
    static final int[] BLURS = {LOW, -1, 0, 1, 20, 21, HIGH};
    static final int[] SHIFTS = {LOW, -1, 0, 1, 19, 20, HIGH};

    interface Asking {
        long ask(MovingThings x, int[] v);
    }

    /** A call: what its numbers are drawn from, what refusal is due (0: none), and whether it changes the object. */
    record Call(String name, boolean alters, ToIntFunction<int[]> refusal, Asking asking, int[]... values) {
    }

    static boolean within(int v, int least, int most) {
        return v >= least && v <= most;
    }

    static boolean thing(int v) {
        return within(v, 0, 9);
    }

    static boolean minute(int v) {
        return within(v, 0, 199);
    }

    static boolean place(int[] v, int at) {
        for (int i = at; i < at + 4; i++) {
            if (!within(v[i], -2000, 2000)) {
                return false;
            }
        }
        return v[at] <= v[at + 1] && v[at + 2] <= v[at + 3];
    }

    static boolean blur(int b, int shift) {
        return within(b, 1, 20) && within(shift, 0, b - 1);
    }

    static int first(boolean known, boolean asTold) {
        return !known ? UNKNOWN : !asTold ? OUTSIDE : 0;
    }

    static boolean threeRows(int[] v) {
        return thing(v[0]) && within(v[1], 0, 2);
    }

    static List<Call> rowCalls() {
        return List.of(
            new Call("say", true, v -> first(thing(v[0]), minute(v[1]) && within(v[2], 0, 99) && within(v[3], 0, 99)),
                (x, v) -> x.say(v[0], v[1], v[2], v[3]), THINGS, MINUTES, SIDE, SIDE),
            new Call("forget", true, v -> first(threeRows(v), true),
                (x, v) -> x.forget(v[0], v[1]), THINGS, ROWS),
            new Call("kind", true, v -> first(thing(v[0]), within(v[1], 0, 1)),
                (x, v) -> x.kind(v[0], v[1]), THINGS, new int[] {LOW, -1, 0, 1, 2, HIGH}),
            new Call("row", false, v -> first(threeRows(v), within(v[2], 0, 2)),
                (x, v) -> x.row(v[0], v[1], v[2]), THINGS, ROWS, new int[] {LOW, -1, 0, 2, 3, HIGH}),
            new Call("at, above", false, v -> first(thing(v[0]), minute(v[1])),
                (x, v) -> x.at(v[0], v[1], false, true), THINGS, MINUTES),
            new Call("at, below", false, v -> first(thing(v[0]), minute(v[1])),
                (x, v) -> x.at(v[0], v[1], true, false), THINGS, MINUTES),
            new Call("at, not there", false, v -> !thing(v[0]) ? UNKNOWN : !minute(v[1]) ? OUTSIDE : STATE,
                (x, v) -> x.at(v[0], v[1], false, false), THINGS, new int[] {LOW, -1, 17, 189, 200, HIGH}),
            new Call("there", false, v -> first(thing(v[0]), minute(v[1])),
                (x, v) -> x.there(v[0], v[1]), THINGS, MINUTES));
    }

    static List<Call> placeCalls() {
        return List.of(
            new Call("inside", false, v -> first(true, place(v, 0) && minute(v[4])),
                (x, v) -> x.inside(v[0], v[1], v[2], v[3], v[4]), PLACE, PLACE, PLACE, PLACE, MINUTES),
            new Call("who", false, v -> first(true, place(v, 0) && minute(v[4])),
                (x, v) -> x.who(v[0], v[1], v[2], v[3], v[4], v[5]), PLACE, PLACE, PLACE, PLACE, MINUTES, INDEX),
            new Call("visits", false, v -> first(thing(v[0]), place(v, 1)),
                (x, v) -> x.visits(v[0], v[1], v[2], v[3], v[4]), THINGS, PLACE, PLACE, PLACE, PLACE),
            new Call("visit", false, v -> first(thing(v[0]), place(v, 1)),
                (x, v) -> x.visit(v[0], v[1], v[2], v[3], v[4], v[5], true),
                THINGS, PLACE, PLACE, PLACE, PLACE, INDEX),
            new Call("opens", false, v -> first(true, place(v, 0) && minute(v[4]) && minute(v[5]) && v[4] <= v[5]),
                (x, v) -> x.opens(v[0], v[1], v[2], v[3], v[4], v[5], false),
                PLACE, PLACE, PLACE, PLACE, MINUTES, MINUTES),
            new Call("stand", true, v -> first(true, place(v, 0)),
                (x, v) -> x.stand(v[0], v[1], v[2], v[3]), PLACE, PLACE, PLACE, PLACE));
    }

    static int meeting(int[] v) {
        int refusal = first(thing(v[0]) && thing(v[1]), within(v[2], 0, 200));
        return refusal != 0 ? refusal : v[0] == v[1] ? STATE : 0;
    }

    static List<Call> nearCalls() {
        int[] r = {LOW, -1, 0, 200, 201, HIGH};
        return List.of(
            new Call("far, above", false, v -> first(thing(v[0]) && thing(v[1]), minute(v[2])),
                (x, v) -> x.far(v[0], v[1], v[2], true), THINGS, THINGS, MINUTES),
            new Call("far, below", false, v -> first(thing(v[0]) && thing(v[1]), minute(v[2])),
                (x, v) -> x.far(v[0], v[1], v[2], false), THINGS, THINGS, MINUTES),
            new Call("nearest", false, v -> first(thing(v[0]), minute(v[1])),
                (x, v) -> x.nearest(v[0], v[1], v[2]), THINGS, MINUTES, INDEX),
            new Call("nearest, not there", false, v -> !thing(v[0]) ? UNKNOWN : !minute(v[1]) ? OUTSIDE : STATE,
                (x, v) -> x.nearest(v[0], v[1], v[2]), THINGS, new int[] {LOW, -1, 17, 189, 200, HIGH}, INDEX),
            new Call("meetings", false, RefusalTest::meeting,
                (x, v) -> x.meetings(v[0], v[1], v[2]), THINGS, THINGS, r),
            new Call("longest", false, RefusalTest::meeting,
                (x, v) -> x.longest(v[0], v[1], v[2], false), THINGS, THINGS, r),
            new Call("pages", false, v -> first(true, within(v[0], 0, 3)),
                (x, v) -> x.pages(v[0]), new int[] {LOW, -1, 0, 3, 4, HIGH}));
    }

    static List<Call> thinAndStandCalls() {
        return List.of(
            new Call("thin", false, v -> first(thing(v[0]), within(v[1], 0, 99)),
                (x, v) -> x.thin(v[0], v[1]), THINGS, ERRORS),
            new Call("kept", false, v -> first(thing(v[0]), within(v[1], 0, 99)),
                (x, v) -> x.kept(v[0], v[1], v[2]), THINGS, ERRORS, INDEX),
            new Call("thinned", true, v -> first(thing(v[0]), within(v[1], 0, 99)),
                (x, v) -> x.thinned(v[0], v[1]), THINGS, ERRORS),
            new Call("pass", true, v -> first(true, within(v[0], 1, 100)),
                (x, v) -> x.pass(v[0]), new int[] {LOW, -1, 0, 1, 100, 101, HIGH}),
            new Call("changes", false, v -> first(within(v[0], 0, 2), minute(v[1])),
                (x, v) -> x.changes(v[0], v[1]), STANDS, MINUTES),
            new Call("change", false, v -> first(within(v[0], 0, 2), minute(v[1])),
                (x, v) -> x.change(v[0], v[1], v[2]), STANDS, MINUTES, INDEX),
            new Call("still", false, v -> first(within(v[0], 0, 2) && thing(v[1]), true),
                (x, v) -> x.still(v[0], v[1]), STANDS, THINGS));
    }

    static List<Call> machineCalls() {
        int[] machines = {LOW, -1, 0, 1, 5, 6, HIGH};
        return List.of(
            new Call("load", false, v -> first(true, within(v[0], 0, 9)),
                (x, v) -> x.load(v[0]), new int[] {LOW, -1, 0, 9, 10, HIGH}),
            new Call("share", false, v -> first(true, within(v[0], 1, 5)), (x, v) -> x.share(v[0]), machines),
            new Call("gets", false, v -> first(true, within(v[0], 1, 5) && within(v[1], 0, v[0] - 1)),
                (x, v) -> x.gets(v[0], v[1]), machines, new int[] {LOW, -1, 0, 1, 4, 5, HIGH}),
            new Call("blur", false, v -> first(threeRows(v), blur(v[2], v[3])),
                (x, v) -> x.blur(v[0], v[1], v[2], v[3], true), THINGS, ROWS, BLURS, SHIFTS),
            new Call("together", false, v -> first(threeRows(v), blur(v[2], v[3]) && blur(v[4], v[5])),
                (x, v) -> x.together(v[0], v[1], v[2], v[3], v[4], v[5]),
                THINGS, ROWS, BLURS, SHIFTS, BLURS, SHIFTS),
            new Call("count", false, v -> first(true, within(v[0], 0, 4)),
                (x, v) -> x.count(v[0]), new int[] {LOW, -1, 0, 4, 5, HIGH}));
    }

    /** Minute 0 has a row already, so that it is mended; any other is one too many. */
    static List<Call> fullCalls() {
        return List.of(
            new Call("say", true, v -> {
                int refusal = first(thing(v[0]), minute(v[1]) && within(v[2], 0, 99) && within(v[3], 0, 99));
                return refusal != 0 ? refusal : v[0] == 0 && v[1] != 0 ? FULL : 0;
            }, (x, v) -> x.say(v[0], v[1], v[2], v[3]), THINGS, MINUTES, SIDE, SIDE),
            new Call("pass", true, v -> within(v[0], 1, 100) ? FULL : OUTSIDE,
                (x, v) -> x.pass(v[0]), new int[] {LOW, -1, 0, 1, 100, 101, HIGH}),
            new Call("stand", true, v -> place(v, 0) ? FULL : OUTSIDE,
                (x, v) -> x.stand(v[0], v[1], v[2], v[3]), PLACE, PLACE, PLACE, PLACE));
    }

    static boolean isRefusal(long answer) {
        return answer == UNKNOWN || answer == OUTSIDE || answer == STATE || answer == FULL;
    }

    /** All ways to take one of the values for each number. */
    static List<int[]> ways(int[][] values) {
        List<int[]> all = new ArrayList<>();
        all.add(new int[0]);
        for (int[] some : values) {
            List<int[]> longer = new ArrayList<>();
            for (int[] way : all) {
                for (int v : some) {
                    int[] more = Arrays.copyOf(way, way.length + 1);
                    more[way.length] = v;
                    longer.add(more);
                }
            }
            all = longer;
        }
        return all;
    }

    static void ask(MovingThings x, Call call, int[] way) {
        int refusal = call.refusal().applyAsInt(way);
        long got = call.asking().ask(x, way);
        String said = call.name() + Arrays.toString(way);
        if (refusal != 0) {
            Check.due(said, got, refusal);
        } else {
            Check.due(said + " is refused", isRefusal(got) ? 1 : 0, 0);
        }
    }

    static void askAll(Call call, Supplier<MovingThings> made) {
        List<Long> before = Scene.seen(made.get());
        List<int[]> kept = new ArrayList<>();
        for (int[] way : ways(call.values())) {
            if (call.alters() && call.refusal().applyAsInt(way) == 0) {
                ask(made.get(), call, way);
            } else {
                kept.add(way);
            }
        }
        for (int from = 0; from < kept.size(); from += CALLS_OF_ONE) {
            MovingThings x = made.get();
            for (int[] way : kept.subList(from, Math.min(kept.size(), from + CALLS_OF_ONE))) {
                ask(x, call, way);
            }
            Check.due(call.name() + " changed something", Scene.seen(x).equals(before) ? 0 : 1, 0);
        }
    }

    public static void main(String[] args) {
        Check.says("terms", "REFUSALS, of several the first that a call names");
        for (List<Call> some : List.of(rowCalls(), placeCalls(), nearCalls(), thinAndStandCalls(), machineCalls())) {
            for (Call call : some) {
                askAll(call, Scene::wide);
            }
        }
        Check.says("terms", "What is refused changes nothing");
        for (Call call : fullCalls()) {
            askAll(call, Scene::full);
        }
        Check.end();
    }
}
