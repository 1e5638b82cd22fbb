import java.math.BigInteger;
import java.util.ArrayList;
import java.util.Arrays;
import java.util.Comparator;
import java.util.List;
import java.util.Map;
import java.util.Random;
import java.util.TreeMap;

/** Runs of calls drawn by a fixed seed; each answer is held against a slow model that is built another way. */
public final class ModelTest {
    static final int UNKNOWN = -900001, OUTSIDE = -900002, STATE = -900003, FULL = -900004, NONE = -900009;
    static final int RUNS = 400, CALLS = 512;

    static int wrong = 0;

    public static void main(String[] args) {
        long answered = 0;
        for (int run = 0; run < RUNS && wrong < 20; run++) {
            Driver driver = new Driver(run);
            for (int call = 0; call < CALLS && wrong < 20; call++) {
                driver.callOne();
                answered++;
            }
        }
        answered += deepPages();
        System.out.println(wrong == 0 ? answered + " answers agree with the model" : wrong + " answers do not agree");
        if (wrong != 0) {
            System.exit(1);
        }
    }

    /** 230 legs along one line, so that nearly each cut goes one page deeper. */
    static int deepPages() {
        Driver deep = new Driver(RUNS);
        for (int t = 0; t < 10; t++) {
            for (int i = 0; i < 24; i++) {
                int at = 9 * t + i * 9 / 24;
                deep.real.say(t, 19 * t + i, at, at);
                deep.model.things.get(t).put(19 * t + i, new int[] {at, at});
            }
        }
        Page root = deep.model.root();
        long[] all = {root.all.size(), root.pages(), root.leaves(), root.deep(), 110, root.leafSizes()};
        for (int what = 0; what < 4; what++) {
            deep.due(Driver.said("pages", what), deep.real.pages(what), all[what]);
        }
        deep.due("pages(3)", deep.real.pages(3), all[4]);
        deep.due("size()", deep.real.size(), all[5]);
        for (int from = 0; from < 200; from++) {
            int[] f = {from / 3, from / 4, from}, t = {from / 3 + 20, from / 4 + 20, Math.min(199, from + 30)};
            deep.due(Driver.said("opens", f, t), deep.real.opens(f[0], t[0], f[1], t[1], f[2], t[2], false),
                root.opened(f, t));
        }
        return 206;
    }

    /** A fraction in least terms, below above zero. */
    static final class Part implements Comparable<Part> {
        final BigInteger above, below;

        Part(BigInteger a, BigInteger b) {
            BigInteger g = a.gcd(b);
            if (b.signum() < 0) {
                g = g.negate();
            }
            above = a.divide(g);
            below = b.divide(g);
        }

        static Part of(long n) {
            return new Part(BigInteger.valueOf(n), BigInteger.ONE);
        }

        Part plus(Part o) {
            return new Part(above.multiply(o.below).add(o.above.multiply(below)), below.multiply(o.below));
        }

        Part minus(Part o) {
            return plus(new Part(o.above.negate(), o.below));
        }

        Part times(Part o) {
            return new Part(above.multiply(o.above), below.multiply(o.below));
        }

        Part by(long n) {
            return new Part(above, below.multiply(BigInteger.valueOf(n)));
        }

        Part abs() {
            return new Part(above.abs(), below);
        }

        public int compareTo(Part o) {
            return above.multiply(o.below).compareTo(o.above.multiply(below));
        }

        boolean within(long from, long to) {
            return compareTo(of(from)) >= 0 && compareTo(of(to)) <= 0;
        }

        long told(boolean upper) {
            return upper ? above.longValueExact() : below.longValueExact();
        }
    }

    /** x and y as lines through two rows. */
    static Part[] line(int m0, int[] p, int m1, int[] q, int minute) {
        Part[] both = new Part[2];
        for (int axis = 0; axis < 2; axis++) {
            Part step = Part.of(q[axis] - p[axis]).by(m1 - m0);
            both[axis] = Part.of(p[axis]).plus(step.times(Part.of(minute - m0)));
        }
        return both;
    }

    static final class Box {
        final int[] from = new int[3], to = new int[3];

        static Box of(List<Leg> legs) {
            Box box = new Box();
            for (int a = 0; a < 3; a++) {
                final int axis = a;
                box.from[a] = legs.stream().mapToInt(l -> Math.min(l.one[axis], l.two[axis])).min().getAsInt();
                box.to[a] = legs.stream().mapToInt(l -> Math.max(l.one[axis], l.two[axis])).max().getAsInt();
            }
            return box;
        }

        long size() {
            long s = 1;
            for (int a = 0; a < 3; a++) {
                s *= to[a] - from[a] + 1;
            }
            return s;
        }

        boolean touches(int[] f, int[] t) {
            for (int a = 0; a < 3; a++) {
                if (Math.max(from[a], f[a]) > Math.min(to[a], t[a])) {
                    return false;
                }
            }
            return true;
        }
    }

    record Leg(int number, int[] one, int[] two) {
        int sum(int axis) {
            return one[axis] + two[axis];
        }
    }

    /** A page keeps all legs that came through it; its box is made from them each time. */
    static final class Page {
        final List<Leg> all = new ArrayList<>();
        Page first, next;

        static long size(List<Leg> legs) {
            return legs.isEmpty() ? 0 : Box.of(legs).size();
        }

        long growth(Leg leg) {
            List<Leg> more = new ArrayList<>(all);
            more.add(leg);
            return size(more) - size(all);
        }

        void take(Leg leg) {
            if (first != null) {
                (first.growth(leg) <= next.growth(leg) ? first : next).take(leg);
                all.add(leg);
                return;
            }
            all.add(leg);
            if (all.size() == 5) {
                cut();
            }
        }

        void cut() {
            long least = Long.MAX_VALUE;
            for (int axis = 0; axis < 3; axis++) {
                final int along = axis;
                List<Leg> sorted = new ArrayList<>(all);
                sorted.sort(Comparator.<Leg>comparingInt(l -> l.sum(along)).thenComparingInt(Leg::number));
                for (int many = 2; many <= 3; many++) {
                    long sum = size(sorted.subList(0, many)) + size(sorted.subList(many, 5));
                    if (sum < least) {
                        least = sum;
                        first = new Page();
                        next = new Page();
                        first.all.addAll(sorted.subList(0, many));
                        next.all.addAll(sorted.subList(many, 5));
                    }
                }
            }
        }

        int pages() {
            return first == null ? 1 : 1 + first.pages() + next.pages();
        }

        int leaves() {
            return first == null ? 1 : first.leaves() + next.leaves();
        }

        int deep() {
            return first == null ? 1 : 1 + Math.max(first.deep(), next.deep());
        }

        long leafSizes() {
            return first == null ? size(all) : first.leafSizes() + next.leafSizes();
        }

        int opened(int[] f, int[] t) {
            if (all.isEmpty() || !Box.of(all).touches(f, t)) {
                return 0;
            }
            return first == null ? 1 : 1 + first.opened(f, t) + next.opened(f, t);
        }

        int touched(int[] f, int[] t) {
            if (all.isEmpty() || !Box.of(all).touches(f, t)) {
                return 0;
            }
            if (first != null) {
                return first.touched(f, t) + next.touched(f, t);
            }
            return (int) all.stream().filter(l -> Box.of(List.of(l)).touches(f, t)).count();
        }
    }

    static final class Model {
        final List<TreeMap<Integer, int[]>> things = new ArrayList<>();
        final int[] kinds = new int[10];
        final List<int[]> stands = new ArrayList<>();
        int minute = 0, mended = 0;

        Model() {
            for (int i = 0; i < 10; i++) {
                things.add(new TreeMap<>());
            }
        }

        static boolean thing(int t) {
            return t >= 0 && t < 10;
        }

        static boolean minute(int m) {
            return m >= 0 && m < 200;
        }

        static boolean place(int[] p) {
            for (int v : p) {
                if (v < -2000 || v > 2000) {
                    return false;
                }
            }
            return p[0] <= p[1] && p[2] <= p[3];
        }

        List<Integer> minutes(int t) {
            return new ArrayList<>(things.get(t).keySet());
        }

        boolean row(int t, int r) {
            return thing(t) && r >= 0 && r < things.get(t).size();
        }

        Part[] where(int t, int m) {
            TreeMap<Integer, int[]> rows = things.get(t);
            int[] exact = rows.get(m);
            if (exact != null) {
                return new Part[] {Part.of(exact[0]), Part.of(exact[1])};
            }
            Map.Entry<Integer, int[]> ahead = rows.lowerEntry(m), behind = rows.higherEntry(m);
            if (ahead == null) {
                return null;
            }
            if (behind != null) {
                return behind.getKey() - ahead.getKey() > 16 ? null
                    : line(ahead.getKey(), ahead.getValue(), behind.getKey(), behind.getValue(), m);
            }
            if (m > ahead.getKey() + 16) {
                return null;
            }
            Map.Entry<Integer, int[]> start = rows.lowerEntry(ahead.getKey());
            if (kinds[t] == 1 && start != null && ahead.getKey() - start.getKey() <= 16) {
                return line(start.getKey(), start.getValue(), ahead.getKey(), ahead.getValue(), m);
            }
            return new Part[] {Part.of(ahead.getValue()[0]), Part.of(ahead.getValue()[1])};
        }

        boolean in(int t, int[] place, int m) {
            Part[] at = m < 0 ? null : where(t, m);
            return at != null && at[0].within(place[0], place[1]) && at[1].within(place[2], place[3]);
        }

        Part far(int a, int b, int m) {
            Part[] p = where(a, m), q = where(b, m);
            if (p == null || q == null) {
                return null;
            }
            Part dx = p[0].minus(q[0]), dy = p[1].minus(q[1]);
            return dx.times(dx).plus(dy.times(dy));
        }

        /** First and last minutes of the runs of true. */
        static List<int[]> runs(boolean[] yes) {
            List<int[]> found = new ArrayList<>();
            for (int m = 0; m < yes.length; m++) {
                if (yes[m] && (m == 0 || !yes[m - 1])) {
                    int end = m;
                    while (end + 1 < yes.length && yes[end + 1]) {
                        end++;
                    }
                    found.add(new int[] {m, end});
                }
            }
            return found;
        }

        List<int[]> visits(int t, int[] place) {
            boolean[] yes = new boolean[200];
            for (int m = 0; m < 200; m++) {
                yes[m] = in(t, place, m);
            }
            return runs(yes);
        }

        List<int[]> meetings(int a, int b, int r) {
            boolean[] yes = new boolean[200];
            for (int m = 0; m < 200; m++) {
                Part f = far(a, b, m);
                yes[m] = f != null && f.compareTo(Part.of((long) r * r)) <= 0;
            }
            return runs(yes);
        }

        Page root() {
            Page page = new Page();
            int number = 0;
            for (int t = 0; t < 10; t++) {
                List<Integer> ms = minutes(t);
                for (int i = 0; i + 1 < ms.size(); i++) {
                    int m0 = ms.get(i), m1 = ms.get(i + 1);
                    if (m1 - m0 <= 16) {
                        int[] p = things.get(t).get(m0), q = things.get(t).get(m1);
                        page.take(new Leg(number++, new int[] {p[0], p[1], m0}, new int[] {q[0], q[1], m1}));
                    }
                }
            }
            return page;
        }

        boolean follows(int t, List<Integer> ms, int i, int j, int error) {
            if (j == i + 1) {
                return true;
            }
            int m0 = ms.get(i), m1 = ms.get(j);
            if (m1 - m0 > 16) {
                return false;
            }
            for (int k = i + 1; k < j; k++) {
                int[] p = things.get(t).get(ms.get(k));
                Part[] at = line(m0, things.get(t).get(m0), m1, things.get(t).get(m1), ms.get(k));
                for (int axis = 0; axis < 2; axis++) {
                    if (at[axis].minus(Part.of(p[axis])).abs().compareTo(Part.of(error)) > 0) {
                        return false;
                    }
                }
            }
            return true;
        }

        static int compare(List<Integer> a, List<Integer> b) {
            if (a.size() != b.size()) {
                return Integer.compare(a.size(), b.size());
            }
            for (int i = 0; i < a.size(); i++) {
                int c = Integer.compare(a.get(i), b.get(i));
                if (c != 0) {
                    return c;
                }
            }
            return 0;
        }

        /** The best list that ends at each row, from the front. */
        List<Integer> kept(int t, int error) {
            List<Integer> ms = minutes(t);
            if (ms.isEmpty()) {
                return new ArrayList<>();
            }
            List<List<Integer>> best = new ArrayList<>();
            best.add(List.of(0));
            for (int j = 1; j < ms.size(); j++) {
                List<Integer> least = null;
                for (int i = 0; i < j; i++) {
                    if (follows(t, ms, i, j, error)) {
                        List<Integer> way = new ArrayList<>(best.get(i));
                        way.add(j);
                        if (least == null || compare(way, least) < 0) {
                            least = way;
                        }
                    }
                }
                best.add(least);
            }
            return best.get(ms.size() - 1);
        }

        int[] loads() {
            int[] loads = new int[10];
            for (TreeMap<Integer, int[]> rows : things) {
                for (int[] p : rows.values()) {
                    loads[p[0] / 10]++;
                }
            }
            return loads;
        }

        /** All sharings in order, the first of the best stays. */
        int[] bestSharing(int machines) {
            int[][] best = new int[1][];
            shareOn(loads(), new int[machines], 0, 0, best);
            return best[0];
        }

        static void shareOn(int[] loads, int[] parts, int machine, int column, int[][] best) {
            if (machine == parts.length - 1) {
                parts[machine] = 10 - column;
                if (best[0] == null || greatest(loads, parts) < greatest(loads, best[0])) {
                    best[0] = parts.clone();
                }
                return;
            }
            for (int many = 0; column + many <= 10; many++) {
                parts[machine] = many;
                shareOn(loads, parts, machine + 1, column + many, best);
            }
        }

        static int greatest(int[] loads, int[] parts) {
            int most = 0, column = 0;
            for (int part : parts) {
                int sum = 0;
                for (int i = 0; i < part; i++) {
                    sum += loads[column++];
                }
                most = Math.max(most, sum);
            }
            return most;
        }

        static boolean blur(int b, int shift) {
            return b >= 1 && b <= 20 && shift >= 0 && shift < b;
        }

        int[] spot(int t, int r) {
            return things.get(t).get(minutes(t).get(r));
        }

        int together(int t, int r, int b, int s, int b2, int s2) {
            int[] p = spot(t, r);
            int found = 0;
            for (int x = 0; x < 100; x++) {
                for (int y = 0; y < 100; y++) {
                    if ((x + s) / b == (p[0] + s) / b && (y + s) / b == (p[1] + s) / b
                        && (x + s2) / b2 == (p[0] + s2) / b2 && (y + s2) / b2 == (p[1] + s2) / b2) {
                        found++;
                    }
                }
            }
            return found;
        }

        List<Integer> changes(int stand, int m) {
            List<Integer> found = new ArrayList<>();
            for (int t = 0; t < 10; t++) {
                boolean now = in(t, stands.get(stand), m);
                if (now != in(t, stands.get(stand), m - 1)) {
                    found.add(now ? t + 100 : t);
                }
            }
            return found;
        }
    }

    /** Draws calls; some draws are wrong on purpose. */
    static final class Driver {
        final MovingThings real = new MovingThings();
        final Model model = new Model();
        final Random random;
        final int run, things, side, lastMinute, step;
        /** Whether rows are told at the edges alone: of x and y, of columns, of minutes, of legs. */
        final boolean edges;
        int drawnMinute = 0;

        Driver(int run) {
            this.run = run;
            random = new Random(7000 + run);
            things = new int[] {1, 2, 3, 10}[run % 4];
            side = new int[] {4, 12, 100}[run % 3];
            lastMinute = new int[] {30, 90, 200}[(run / 3) % 3];
            step = new int[] {3, 8, 20}[(run / 2) % 3];
            edges = run % 5 == 4;
        }

        int oneOf(int... some) {
            return some[random.nextInt(some.length)];
        }

        int coordinate() {
            return edges ? oneOf(0, 1, 9, 10, 50, 89, 90, 98, 99, 99, 0, upTo(100)) : upTo(side);
        }

        boolean odd() {
            return random.nextInt(40) == 0;
        }

        int wild() {
            int[] all = {-1, -2, 10, 24, 100, 200, 201, -2001, 2001, Integer.MIN_VALUE, Integer.MAX_VALUE, 6, 5, 21};
            return all[random.nextInt(all.length)];
        }

        int upTo(int n) {
            return odd() ? wild() : random.nextInt(n);
        }

        int thing() {
            return upTo(things);
        }

        int minute() {
            return upTo(edges ? 200 : lastMinute);
        }

        int sayMinute() {
            if (edges) {
                return oneOf(0, 1, 15, 16, 17, 32, 33, 34, 50, 100, 166, 167, 182, 183, 184, 198, 199, minute());
            }
            if (random.nextInt(3) == 0) {
                return minute();
            }
            drawnMinute = (drawnMinute + 1 + random.nextInt(step)) % lastMinute;
            return drawnMinute;
        }

        int row(int t) {
            int many = Model.thing(t) ? model.things.get(t).size() : 0;
            return odd() || many == 0 ? wild() : random.nextInt(many + (random.nextInt(10) == 0 ? 1 : 0));
        }

        int[] place() {
            int[] p = new int[4];
            for (int a = 0; a < 4; a += 2) {
                int reach = random.nextInt(4) == 0 ? 2000 : side;
                int one = random.nextInt(reach + 1) * (random.nextInt(3) == 0 ? -1 : 1);
                int two = random.nextInt(reach + 1);
                p[a] = Math.min(one, two);
                p[a + 1] = Math.max(one, two);
                if (odd()) {
                    p[a + random.nextInt(2)] = wild();
                }
            }
            return p;
        }

        void due(String call, long got, long want) {
            if (got != want) {
                wrong++;
                System.out.println("run " + run + ": " + call + " answered " + got + ", the model " + want);
            }
        }

        static String said(String name, Object... given) {
            String all = Arrays.deepToString(given);
            return name + "(" + all.substring(1, all.length() - 1) + ")";
        }

        void callOne() {
            int draw = random.nextInt(60);
            if (draw < 22) {
                say();
            } else if (draw < 29) {
                rows(draw);
            } else if (draw < 34) {
                places(draw);
            } else if (draw < 40) {
                near(draw);
            } else if (draw < 43) {
                pages(draw);
            } else if (draw < 46) {
                thinning(draw);
            } else if (draw < 52) {
                stands(draw);
            } else {
                machines(draw);
            }
        }

        void say() {
            int t = thing(), m = sayMinute(), x = coordinate(), y = coordinate();
            long got = real.say(t, m, x, y), want;
            if (!Model.thing(t)) {
                want = UNKNOWN;
            } else if (!Model.minute(m) || x < 0 || x > 99 || y < 0 || y > 99) {
                want = OUTSIDE;
            } else if (model.things.get(t).size() == 24 && !model.things.get(t).containsKey(m)) {
                want = FULL;
            } else {
                if (model.things.get(t).put(m, new int[] {x, y}) != null) {
                    model.mended++;
                }
                want = model.things.get(t).size();
            }
            due(said("say", t, m, x, y), got, want);
        }

        void rows(int draw) {
            int t = thing(), m = minute(), r = row(t);
            boolean y = random.nextBoolean(), upper = random.nextBoolean();
            if (draw == 22) {
                long want = UNKNOWN;
                long got = real.forget(t, r);
                if (model.row(t, r)) {
                    model.things.get(t).remove(model.minutes(t).get(r));
                    want = model.things.get(t).size();
                }
                due(said("forget", t, r), got, want);
            } else if (draw == 23) {
                int v = upTo(2);
                long want = !Model.thing(t) ? UNKNOWN : v != 0 && v != 1 ? OUTSIDE : model.kinds[t];
                if (want >= 0) {
                    model.kinds[t] = v;
                }
                due(said("kind", t, v), real.kind(t, v), want);
            } else if (draw == 24) {
                int what = upTo(3);
                long want = !model.row(t, r) ? UNKNOWN : what < 0 || what > 2 ? OUTSIDE
                    : what == 0 ? model.minutes(t).get(r) : model.spot(t, r)[what - 1];
                due(said("row", t, r, what), real.row(t, r, what), want);
            } else if (draw < 27) {
                Part[] at = Model.thing(t) && Model.minute(m) ? model.where(t, m) : null;
                long want = !Model.thing(t) ? UNKNOWN : !Model.minute(m) ? OUTSIDE : at == null ? STATE
                    : at[y ? 1 : 0].told(upper);
                due(said("at", t, m, y, upper), real.at(t, m, y, upper), want);
            } else if (draw == 27) {
                long want = !Model.thing(t) ? UNKNOWN : !Model.minute(m) ? OUTSIDE : model.where(t, m) == null ? 0 : 1;
                due(said("there", t, m), real.there(t, m), want);
            } else {
                due("mended()", real.mended(), model.mended);
            }
        }

        void places(int draw) {
            int t = thing(), m = minute(), i = upTo(3);
            int[] p = place();
            boolean good = Model.place(p), last = random.nextBoolean();
            if (draw < 32) {
                List<Integer> in = new ArrayList<>();
                for (int thing = 0; good && Model.minute(m) && thing < 10; thing++) {
                    if (model.in(thing, p, m)) {
                        in.add(thing);
                    }
                }
                boolean fine = good && Model.minute(m);
                if (draw == 29) {
                    due(said("inside", p, m), real.inside(p[0], p[1], p[2], p[3], m), fine ? in.size() : OUTSIDE);
                } else {
                    long want = !fine ? OUTSIDE : i >= 0 && i < in.size() ? in.get(i) : NONE;
                    due(said("who", p, m, i), real.who(p[0], p[1], p[2], p[3], m, i), want);
                }
                return;
            }
            List<int[]> all = good && Model.thing(t) ? model.visits(t, p) : new ArrayList<>();
            long refused = !Model.thing(t) ? UNKNOWN : !good ? OUTSIDE : 0;
            if (draw == 32) {
                due(said("visits", t, p), real.visits(t, p[0], p[1], p[2], p[3]), refused != 0 ? refused : all.size());
            } else {
                long want = refused != 0 ? refused : i < 0 || i >= all.size() ? NONE : all.get(i)[last ? 1 : 0];
                due(said("visit", t, p, i, last), real.visit(t, p[0], p[1], p[2], p[3], i, last), want);
            }
        }

        void near(int draw) {
            int a = thing(), b = thing(), m = minute(), k = upTo(4);
            int r = odd() ? wild() : random.nextInt(random.nextBoolean() ? 201 : side);
            boolean flag = random.nextBoolean();
            boolean known = Model.thing(a) && Model.thing(b);
            if (draw < 36) {
                Part f = known && Model.minute(m) ? model.far(a, b, m) : null;
                long want = !known ? UNKNOWN : !Model.minute(m) ? OUTSIDE : f == null ? STATE : f.told(flag);
                due(said("far", a, b, m, flag), real.far(a, b, m, flag), want);
            } else if (draw < 38) {
                due(said("nearest", a, m, k), real.nearest(a, m, k), nearestDue(a, m, k));
            } else {
                long refused = !known ? UNKNOWN : r < 0 || r > 200 ? OUTSIDE : a == b ? STATE : 0;
                List<int[]> all = refused != 0 ? new ArrayList<>() : model.meetings(a, b, r);
                if (draw == 38) {
                    due(said("meetings", a, b, r), real.meetings(a, b, r), refused != 0 ? refused : all.size());
                    return;
                }
                int[] best = null;
                for (int[] one : all) {
                    if (best == null || one[1] - one[0] > best[1] - best[0]) {
                        best = one;
                    }
                }
                long want = refused != 0 ? refused : best == null ? NONE : flag ? best[1] - best[0] + 1 : best[0];
                due(said("longest", a, b, r, flag), real.longest(a, b, r, flag), want);
            }
        }

        long nearestDue(int t, int m, int k) {
            if (!Model.thing(t)) {
                return UNKNOWN;
            }
            if (!Model.minute(m)) {
                return OUTSIDE;
            }
            if (model.where(t, m) == null) {
                return STATE;
            }
            List<Integer> others = new ArrayList<>();
            for (int o = 0; o < 10; o++) {
                if (o != t && model.where(o, m) != null) {
                    others.add(o);
                }
            }
            others.sort(Comparator.<Integer, Part>comparing(o -> model.far(t, o, m)).thenComparing(o -> o));
            return k >= 0 && k < others.size() ? others.get(k) : NONE;
        }

        void pages(int draw) {
            Page root = model.root();
            if (draw == 40) {
                int what = upTo(4);
                long[] all = {root.all.size(), root.pages(), root.leaves(), root.deep()};
                due(said("pages", what), real.pages(what), what < 0 || what > 3 ? OUTSIDE : all[what]);
            } else if (draw == 41) {
                due("size()", real.size(), root.leafSizes());
            } else {
                int[] p = place();
                int one = minute(), two = minute();
                int from = odd() ? one : Math.min(one, two), to = odd() ? two : Math.max(one, two);
                boolean legs = random.nextBoolean();
                int[] f = {p[0], p[2], from}, t = {p[1], p[3], to};
                boolean fine = Model.place(p) && Model.minute(from) && Model.minute(to) && from <= to;
                long want = !fine ? OUTSIDE : legs ? root.touched(f, t) : root.opened(f, t);
                due(said("opens", p, from, to, legs), real.opens(p[0], p[1], p[2], p[3], from, to, legs), want);
            }
        }

        void thinning(int draw) {
            int t = thing(), i = upTo(8);
            int error = odd() ? wild() : random.nextInt(1 + random.nextInt(side));
            long refused = !Model.thing(t) ? UNKNOWN : error < 0 || error > 99 ? OUTSIDE : 0;
            List<Integer> kept = refused != 0 ? new ArrayList<>() : model.kept(t, error);
            if (draw == 43) {
                due(said("thin", t, error), real.thin(t, error), refused != 0 ? refused : kept.size());
            } else if (draw == 44 || random.nextInt(3) != 0) {
                long want = refused != 0 ? refused : i < 0 || i >= kept.size() ? NONE : kept.get(i);
                due(said("kept", t, error, i), real.kept(t, error, i), want);
            } else {
                long want = refused;
                if (refused == 0) {
                    List<Integer> ms = model.minutes(t);
                    for (int r = 0; r < ms.size(); r++) {
                        if (!kept.contains(r)) {
                            model.things.get(t).remove(ms.get(r));
                        }
                    }
                    want = ms.size() - kept.size();
                }
                due(said("thinned", t, error), real.thinned(t, error), want);
            }
        }

        void stands(int draw) {
            int s = odd() ? wild() : random.nextInt(model.stands.size() + 1), m = minute(), t = thing(), i = upTo(3);
            boolean known = s >= 0 && s < model.stands.size();
            long refused = !known ? UNKNOWN : !Model.minute(m) ? OUTSIDE : 0;
            List<Integer> changes = refused != 0 ? new ArrayList<>() : model.changes(s, m);
            if (draw == 46) {
                int n = odd() ? wild() : 1 + random.nextInt(random.nextInt(20) == 0 ? 101 : 5);
                long want = n < 1 || n > 100 ? OUTSIDE : model.minute + n > 199 ? FULL : model.minute + n;
                if (want >= 0) {
                    model.minute += n;
                }
                due(said("pass", n), real.pass(n), want);
            } else if (draw == 47) {
                int[] p = place();
                long want = !Model.place(p) ? OUTSIDE : model.stands.size() == 6 ? FULL : model.stands.size();
                if (want >= 0) {
                    model.stands.add(p);
                }
                due(said("stand", p), real.stand(p[0], p[1], p[2], p[3]), want);
            } else if (draw == 48) {
                due(said("changes", s, m), real.changes(s, m), refused != 0 ? refused : changes.size());
            } else if (draw == 49) {
                long want = refused != 0 ? refused : i < 0 || i >= changes.size() ? NONE : changes.get(i);
                due(said("change", s, m, i), real.change(s, m, i), want);
            } else {
                long want = UNKNOWN;
                if (known && Model.thing(t)) {
                    int end = model.minute;
                    while (end < 199 && model.in(t, model.stands.get(s), end + 1)
                        == model.in(t, model.stands.get(s), model.minute)) {
                        end++;
                    }
                    want = end - model.minute;
                }
                due(said("still", s, t), real.still(s, t), want);
            }
        }

        void machines(int draw) {
            int t = thing(), r = row(t), n = odd() ? wild() : 1 + random.nextInt(5), which = upTo(5);
            int b = odd() ? wild() : 1 + random.nextInt(20), b2 = odd() ? wild() : 1 + random.nextInt(20);
            int s = upTo(Math.max(1, Math.min(20, b))), s2 = upTo(Math.max(1, Math.min(20, b2)));
            boolean y = random.nextBoolean(), machines = n >= 1 && n <= 5;
            if (draw == 52) {
                int c = upTo(10);
                due(said("load", c), real.load(c), c < 0 || c > 9 ? OUTSIDE : model.loads()[c]);
            } else if (draw == 53) {
                long want = !machines ? OUTSIDE : Model.greatest(model.loads(), model.bestSharing(n));
                due(said("share", n), real.share(n), want);
            } else if (draw == 54) {
                long want = !machines || which < 0 || which >= n ? OUTSIDE : model.bestSharing(n)[which];
                due(said("gets", n, which), real.gets(n, which), want);
            } else if (draw == 55) {
                long want = !model.row(t, r) ? UNKNOWN : !Model.blur(b, s) ? OUTSIDE
                    : (model.spot(t, r)[y ? 1 : 0] + s) / b;
                due(said("blur", t, r, b, s, y), real.blur(t, r, b, s, y), want);
            } else if (draw == 56) {
                long want = !model.row(t, r) ? UNKNOWN : !Model.blur(b, s) || !Model.blur(b2, s2) ? OUTSIDE
                    : model.together(t, r, b, s, b2, s2);
                due(said("together", t, r, b, s, b2, s2), real.together(t, r, b, s, b2, s2), want);
            } else {
                int what = upTo(5);
                int rows = 0, with = 0, there = 0;
                for (int i = 0; i < 10; i++) {
                    rows += model.things.get(i).size();
                    with += model.things.get(i).isEmpty() ? 0 : 1;
                    there += model.where(i, model.minute) == null ? 0 : 1;
                }
                int[] all = {rows, with, there, model.stands.size(), model.minute};
                due(said("count", what), real.count(what), what < 0 || what > 4 ? OUTSIDE : all[what]);
            }
        }
    }
}
