import java.util.ArrayList;
import java.util.List;

/** Objects with rows told, and what can be seen of one. */
final class Scene {
    private Scene() {
    }

    /** Rows of thing 0: minute, x, y, minute, .. */
    static MovingThings told(int... rows) {
        return tell(new MovingThings(), 0, rows);
    }

    static MovingThings tell(MovingThings x, int thing, int... rows) {
        for (int i = 0; i < rows.length; i += 3) {
            x.say(thing, rows[i], rows[i + 1], rows[i + 2]);
        }
        return x;
    }

    /** Things from 0 on with a leg each, begun at that value along one axis, at 0 along the others, 1 long. */
    static MovingThings along(int axis, int... values) {
        MovingThings x = new MovingThings();
        for (int i = 0; i < values.length; i++) {
            int[] at = {0, 0, 0};
            at[axis] = values[i];
            tell(x, i, at[2], at[0], at[1], at[2] + 1, at[0] + 1, at[1] + 1);
        }
        return x;
    }

    /** All ten things with 3 rows, at a row at minutes 0 and 199; 3 stands; minute 50; one row mended; odd kinds 1. */
    static MovingThings wide() {
        MovingThings x = new MovingThings();
        for (int thing = 0; thing < 10; thing++) {
            tell(x, thing, 199, 9 * thing, 99 - thing, 0, 10 * thing, thing, 190, 5, 7);
            if (thing % 2 == 1) {
                x.kind(thing, 1);
            }
        }
        x.say(9, 190, 6, 8);
        stands(x, 3);
        x.pass(50);
        return x;
    }

    /** Thing 0 has 24 rows, there are 6 stands, and the minute is 199. */
    static MovingThings full() {
        MovingThings x = new MovingThings();
        for (int i = 0; i < 24; i++) {
            x.say(0, 8 * i, 4 * i, 99 - 4 * i);
        }
        stands(x, 6);
        x.pass(99);
        x.pass(100);
        return x;
    }

    private static void stands(MovingThings x, int many) {
        for (int i = 0; i < many; i++) {
            x.stand(-i, 20 + i, i, 50);
        }
    }

    /** Kinds are asked last, as to ask is to set. Some 190 calls. */
    static List<Long> seen(MovingThings x) {
        List<Long> all = new ArrayList<>();
        for (int what = 0; what < 5; what++) {
            all.add((long) x.count(what));
        }
        all.add((long) x.mended());
        for (int what = 0; what < 4; what++) {
            all.add((long) x.pages(what));
        }
        all.add(x.size());
        seeRows(x, all);
        for (int stand = 0; stand < 7; stand++) {
            for (int minute : new int[] {0, 191, 199}) {
                all.add((long) x.changes(stand, minute));
            }
            all.add((long) x.still(stand, 0));
        }
        for (int thing = 0; thing < 10; thing++) {
            all.add((long) x.kind(thing, 0));
        }
        return all;
    }

    private static void seeRows(MovingThings x, List<Long> all) {
        for (int thing = 0; thing < 10; thing++) {
            int rows = x.thin(thing, 0) == 0 ? 0 : 24;
            for (int row = 0; row < rows && x.row(thing, row, 0) >= 0; row++) {
                for (int what = 0; what < 3; what++) {
                    all.add((long) x.row(thing, row, what));
                }
            }
        }
    }
}
