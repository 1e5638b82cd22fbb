import java.lang.reflect.Method;
import java.lang.reflect.Modifier;
import java.nio.charset.StandardCharsets;
import java.nio.file.DirectoryStream;
import java.nio.file.Files;
import java.nio.file.Path;
import java.util.Map;
import java.util.Set;
import java.util.TreeMap;
import java.util.TreeSet;
import java.util.regex.Matcher;
import java.util.regex.Pattern;

/** README.md says how to use the class and how to run its tests: what it says holds, and it leaves out no call. */
public final class ReadmeTest {
    static final Pattern CALL = Pattern.compile("(?m)^x\\.(\\w+)\\(([^)]*)\\); +// (-?\\w+)");
    static final Pattern CONSTANT = Pattern.compile("(?m)^\\| `(\\w+)` *\\| *(-?\\d+) *\\|");

    static int asked = 0, wrong = 0;

    static void must(boolean holds, String what) {
        if (!holds) {
            wrong++;
            System.out.println("README.md: " + what);
        }
    }

    public static void main(String[] args) throws Exception {
        String text = Files.readString(Path.of("README.md"), StandardCharsets.UTF_8);
        checkConstants(text);
        checkCalls(text);
        checkTests(text);
        System.out.println(wrong == 0 ? asked + " answers of README.md hold" : wrong + " faults in README.md");
        if (wrong != 0) {
            System.exit(1);
        }
    }

    static void checkConstants(String text) throws Exception {
        Set<String> told = new TreeSet<>();
        Matcher row = CONSTANT.matcher(text);
        while (row.find()) {
            told.add(row.group(1));
            must(MovingThings.class.getField(row.group(1)).getInt(null) == Integer.parseInt(row.group(2)), row.group());
        }
        must(told.equals(Set.of("UNKNOWN", "OUTSIDE", "STATE", "FULL", "NONE")), "constants told: " + told);
    }

    static Map<String, Method> face() {
        Map<String, Method> face = new TreeMap<>();
        for (Method m : MovingThings.class.getDeclaredMethods()) {
            if (Modifier.isPublic(m.getModifiers())) {
                face.put(m.getName(), m);
            }
        }
        return face;
    }

    static void checkCalls(String text) throws Exception {
        Map<String, Method> face = face();
        Set<String> unused = new TreeSet<>(face.keySet());
        MovingThings x = new MovingThings();
        Matcher line = CALL.matcher(text);
        while (line.find()) {
            asked++;
            unused.remove(line.group(1));
            long got = ((Number) face.get(line.group(1)).invoke(x, values(line.group(2)))).longValue();
            must(got == answer(line.group(3)), line.group() + " is told, " + got + " was answered");
        }
        must(asked == text.lines().filter(l -> l.startsWith("x.")).count(), "a call without its answer");
        must(unused.isEmpty(), "calls that are not used: " + unused);
    }

    static Object[] values(String list) {
        String[] words = list.isEmpty() ? new String[0] : list.split(", ");
        Object[] values = new Object[words.length];
        for (int i = 0; i < words.length; i++) {
            boolean truth = words[i].equals("true") || words[i].equals("false");
            values[i] = truth ? (Object) Boolean.valueOf(words[i]) : (Object) Integer.valueOf(words[i]);
        }
        return values;
    }

    static long answer(String word) throws Exception {
        return word.matches("-?\\d+") ? Long.parseLong(word) : MovingThings.class.getField(word).getInt(null);
    }

    static void checkTests(String text) throws Exception {
        must(text.contains("\n    .ci/run\n") && Files.isExecutable(Path.of(".ci/run")), "how to run the tests");
        try (DirectoryStream<Path> files = Files.newDirectoryStream(Path.of("src/test/java"), "*.java")) {
            for (Path file : files) {
                String name = file.getFileName().toString().replace(".java", "");
                must(text.contains("`" + name + "`"), name + " is not told of");
            }
        }
    }
}
