import java.io.IOException;
import java.io.UncheckedIOException;
import java.nio.charset.StandardCharsets;
import java.nio.file.Files;
import java.nio.file.Path;
import java.util.ArrayList;
import java.util.List;
import java.util.regex.Matcher;
import java.util.regex.Pattern;

/** ../shared/DOC.md in pieces, so that a test can tell which of its sentences it holds the class to. */
final class Doc {
    static final int PROMISES = 33;
    static final String TEXT = read();

    private Doc() {
    }

    private static String read() {
        try {
            return Files.readString(Path.of("../shared/DOC.md"), StandardCharsets.UTF_8);
        } catch (IOException e) {
            throw new UncheckedIOException(e);
        }
    }

    private static String between(String from, String to) {
        int start = TEXT.indexOf(from);
        int end = start < 0 ? -1 : TEXT.indexOf(to, start + from.length());
        if (end < 0) {
            throw new IllegalStateException("the document has no " + from + " .. " + to);
        }
        return TEXT.substring(start + from.length(), end);
    }

    private static String onOneLine(String text) {
        return text.replaceAll("```\\w*", " ").replaceAll("==== \\d", " ").replaceAll("\\s+", " ").trim();
    }

    static String whole() {
        return onOneLine(TEXT);
    }

    static List<String> termSentences() {
        return List.of(onOneLine(between("## Terms", "Ahead of the calls")).split("(?<=\\.) (?=[A-Z])"));
    }

    /** What a promise says, without the call. */
    static String promise(int number) {
        String end = number < PROMISES ? "## Promise " + (number + 1) + ":" : "## Not promised";
        String text = onOneLine(between("## Promise " + number + ":", end));
        return text.substring(text.indexOf("`: ") + 3);
    }

    /** Each refusal and each NONE of a promise, with what it says of it. */
    static List<String> refusals(int number) {
        List<String> found = new ArrayList<>();
        Matcher one = Pattern.compile("\\b(UNKNOWN|OUTSIDE|STATE|FULL|NONE)\\b[^;.]*").matcher(promise(number));
        while (one.find()) {
            found.add(one.group());
        }
        return found;
    }
}
