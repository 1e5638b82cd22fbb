import java.lang.reflect.Constructor;
import java.lang.reflect.Field;
import java.lang.reflect.Method;
import java.lang.reflect.Modifier;
import java.nio.charset.StandardCharsets;
import java.nio.file.Files;
import java.nio.file.Path;
import java.util.Map;
import java.util.Set;
import java.util.TreeMap;
import java.util.TreeSet;
import java.util.regex.Matcher;
import java.util.regex.Pattern;

/** What of ../shared/LANGUAGE.md can be seen from the file and from the classes. */
public final class LanguageTest {
    static final String FACE = "say(int,int,int,int)int forget(int,int)int kind(int,int)int row(int,int,int)int "
        + "at(int,int,boolean,boolean)int there(int,int)int mended()int inside(int,int,int,int,int)int "
        + "who(int,int,int,int,int,int)int visits(int,int,int,int,int)int "
        + "visit(int,int,int,int,int,int,boolean)int far(int,int,int,boolean)long nearest(int,int,int)int "
        + "meetings(int,int,int)int longest(int,int,int,boolean)int pages(int)int size()long "
        + "opens(int,int,int,int,int,int,boolean)int thin(int,int)int kept(int,int,int)int thinned(int,int)int "
        + "pass(int)int stand(int,int,int,int)int changes(int,int)int change(int,int,int)int still(int,int)int "
        + "load(int)int share(int)int gets(int,int)int blur(int,int,int,int,boolean)int "
        + "together(int,int,int,int,int,int)int count(int)int";
    static final String[] FORBIDDEN = {"\\bthrow\\b", "\\bthrows\\b", "\\btry\\b", "\\bcatch\\b", "\\bsynchronized\\b",
        "\\bassert\\b", "\\bimport\\b", "\\bpackage\\b", "->", "::", "Exact\\(", "\\bprotected\\b", "\\bvar\\b",
        "\\bSystem\\.(?!arraycopy)", "\\bMath\\.(?!min|max|abs)", "\\bThread\\b", "\\bjava\\.", "\\bstatic\\s*\\{",
        "\\bObject\\b", "\\bvolatile\\b", "\\btransient\\b", "\\bnative\\b", "@", "\\bdouble\\b", "\\bfloat\\b"};
    static final String NO_STATEMENT = "(?!(?:if|for|while|switch|return)\\b)";
    static final Pattern METHOD =
        Pattern.compile("(?m)^( {4}| {8})" + NO_STATEMENT + "(?:\\S.* )?(\\w+)\\([^()]*\\) \\{$");
    static final Pattern CALL = Pattern.compile("\\b" + NO_STATEMENT + "(\\w+)\\(");
    static final Set<Class<?>> CONSTANT_TYPES = Set.of(int.class, long.class, boolean.class, char.class, String.class);
    static final int LONGEST_METHOD = 60, DEEPEST_CALL = 8;

    static int wrong = 0;

    static void must(boolean holds, String what) {
        if (!holds) {
            wrong++;
            System.out.println("not as LANGUAGE.md asks: " + what);
        }
    }

    public static void main(String[] args) throws Exception {
        String source = Files.readString(Path.of("src/main/java/MovingThings.java"), StandardCharsets.UTF_8);
        checkWords(source);
        checkCalls(checkMethodLengths(source));
        checkFace();
        checkClasses();
        System.out.println(wrong == 0 ? "the language is kept" : wrong + " rules are broken");
        if (wrong != 0) {
            System.exit(1);
        }
    }

    static void checkWords(String source) {
        must(source.chars().allMatch(c -> c == '\n' || c >= 32 && c < 127), "plain signs alone");
        String code = source.replaceAll("(?s)/\\*.*?\\*/", "").replaceAll("//[^\n]*", "");
        for (String word : FORBIDDEN) {
            must(!Pattern.compile(word).matcher(code).find(), "no " + word);
        }
    }

    /** Methods stand four or eight deep here and end with their brace alone; by name, those of one name together. */
    static Map<String, String> checkMethodLengths(String source) {
        Map<String, String> bodies = new TreeMap<>();
        Matcher method = METHOD.matcher(source);
        while (method.find()) {
            int end = source.indexOf("\n" + method.group(1) + "}", method.end());
            must(end >= 0, "an end of " + method.group());
            String body = source.substring(method.end(), Math.max(end, method.end()));
            must(body.lines().count() <= LONGEST_METHOD, body.lines().count() + " lines: " + method.group());
            bodies.merge(method.group(2), body, String::concat);
        }
        return bodies;
    }

    /** Rules 8 and 11: no method comes back to itself, and calls go eight deep at most, the library's with them. */
    static void checkCalls(Map<String, String> bodies) {
        for (Method m : MovingThings.class.getDeclaredMethods()) {
            must(bodies.containsKey(m.getName()), "the lines of " + m.getName() + " are found");
        }
        Map<String, Integer> depths = new TreeMap<>();
        for (String name : bodies.keySet()) {
            int depth = depthOf(name, bodies, depths, 0);
            must(depth <= DEEPEST_CALL, depth + " calls deep: " + name);
        }
    }

    static int depthOf(String name, Map<String, String> bodies, Map<String, Integer> depths, int open) {
        if (open > bodies.size()) {
            must(false, "recursion without a guard: " + name);
            return 0;
        }
        if (!bodies.containsKey(name)) {
            return 1;
        }
        if (!depths.containsKey(name)) {
            int deepest = 0;
            Matcher call = CALL.matcher(bodies.get(name));
            while (call.find()) {
                deepest = Math.max(deepest, depthOf(call.group(1), bodies, depths, open + 1));
            }
            depths.put(name, deepest + 1);
        }
        return depths.get(name);
    }

    static String sign(Method m) {
        StringBuilder s = new StringBuilder(m.getName()).append('(');
        for (int i = 0; i < m.getParameterCount(); i++) {
            s.append(i > 0 ? "," : "").append(m.getParameterTypes()[i].getName());
        }
        return s.append(')').append(m.getReturnType().getName()).toString();
    }

    static void checkFace() {
        Class<?> type = MovingThings.class;
        must(Modifier.isFinal(type.getModifiers()) && Modifier.isPublic(type.getModifiers()), "public and final");
        Set<String> due = new TreeSet<>(Set.of(FACE.split(" "))), found = new TreeSet<>(), names = new TreeSet<>();
        for (Method m : type.getDeclaredMethods()) {
            if (!Modifier.isPrivate(m.getModifiers())) {
                found.add(sign(m));
                names.add(m.getName());
            }
        }
        must(found.equals(due), "the methods of the face: " + found);
        for (Method m : type.getDeclaredMethods()) {
            must(!Modifier.isPrivate(m.getModifiers()) || !names.contains(m.getName()), "private name " + m.getName());
        }
        for (Class<?> inner : type.getDeclaredClasses()) {
            for (Method m : inner.getDeclaredMethods()) {
                must(!names.contains(m.getName()), "a name of the face in " + inner + ": " + m.getName());
            }
        }
        Set<String> constants = new TreeSet<>();
        for (Field f : type.getDeclaredFields()) {
            if (!Modifier.isPrivate(f.getModifiers())) {
                constants.add(f.getName());
                must(Modifier.isStatic(f.getModifiers()) && Modifier.isFinal(f.getModifiers())
                    && f.getType() == int.class, "constant " + f);
            }
        }
        must(constants.equals(Set.of("UNKNOWN", "OUTSIDE", "STATE", "FULL", "NONE")), "constants " + constants);
        Constructor<?>[] made = type.getDeclaredConstructors();
        must(made.length == 1 && Modifier.isPublic(made[0].getModifiers()) && made[0].getParameterCount() == 0,
            "one public constructor");
    }

    static void checkClasses() {
        must(MovingThings.class.getDeclaredClasses().length <= 11, "twelve classes at most");
        checkClass(MovingThings.class);
        for (Class<?> inner : MovingThings.class.getDeclaredClasses()) {
            must(Modifier.isStatic(inner.getModifiers()), "static " + inner);
            must(!Modifier.isPublic(inner.getModifiers()), "private or package-visible " + inner);
            must(inner.getDeclaredClasses().length == 0, "no deeper classes in " + inner);
            checkClass(inner);
        }
    }

    static void checkClass(Class<?> type) {
        int own = 0;
        for (Field f : type.getDeclaredFields()) {
            if (Modifier.isStatic(f.getModifiers())) {
                must(Modifier.isFinal(f.getModifiers()) && CONSTANT_TYPES.contains(f.getType()), "a constant " + f);
            } else {
                own++;
            }
        }
        must(own <= 20, own + " fields in " + type);
        for (Method m : type.getDeclaredMethods()) {
            must(m.getParameterCount() <= 7, "seven parameters at most: " + m);
        }
    }
}
