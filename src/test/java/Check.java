import java.util.ArrayList;
import java.util.List;

/** Counts answers that are not as due, under the words of the document that ask for them. */
final class Check {
    static final int UNKNOWN = -900001, OUTSIDE = -900002, STATE = -900003, FULL = -900004, NONE = -900009;
    static final int LOW = Integer.MIN_VALUE, HIGH = Integer.MAX_VALUE;

    static final List<String> quoted = new ArrayList<>();
    private static String words = "";
    private static int asked = 0, wrong = 0;
    private static int askedOfWords = 1;

    private Check() {
    }

    /** What is asked from here on is asked by these words of the document. */
    static void says(String where, String quote) {
        must(askedOfWords > 0, "no answer was asked for");
        words = where + " \"" + quote + "\"";
        askedOfWords = 0;
        quoted.add(where + "|" + quote);
    }

    static void due(String what, long got, long want) {
        asked++;
        askedOfWords++;
        if (got != want) {
            wrong++;
            System.out.println(words + ": " + what + " answered " + got + ", due is " + want);
        }
    }

    static void must(boolean holds, String what) {
        if (!holds) {
            wrong++;
            System.out.println(words + ": " + what);
        }
    }

    static void end() {
        must(askedOfWords > 0, "no answer was asked for");
        System.out.println(wrong == 0 ? asked + " answers are as due, to " + quoted.size() + " sentences"
            : wrong + " are not as due");
        if (wrong != 0) {
            System.exit(1);
        }
    }
}
