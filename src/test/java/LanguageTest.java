import java.io.IOException;
import java.nio.file.Files;
import java.nio.file.Path;
import java.util.List;
import java.util.regex.Matcher;
import java.util.regex.Pattern;

/** The rules of LANGUAGE.md that the words of the source show: not all of them, but the common slips. */
public final class LanguageTest {
    private static final Path SOURCE = Path.of("src/main/java/LinearCodes.java");

    private static final List<String> RULED_OUT = List.of(
            "package", "import", "interface", "enum", "record", "protected",
            "float", "double", "String", "Math", "Integer", "Long", "System", "Arrays", "Object",
            "null", "throw", "throws", "try", "catch", "synchronized", "assert", "instanceof");

    private static final Pattern ARRAY_IN_FIELD =
            Pattern.compile("^    private final (int|long|short|byte|char|boolean)\\[\\] \\w+ = new \\1\\[\\w+\\];$");

    public static void main(String[] args) throws IOException {
        String code = Files.readString(SOURCE)
                .replaceAll("(?s)/\\*.*?\\*/", "")
                .replaceAll("//[^\n]*", "");
        for (String word : RULED_OUT) {
            Checks.due("uses of " + word, count(code, "\\b" + word + "\\b"), 0);
        }
        Checks.due("classes", count(code, "\\bclass\\b"), 1);
        Checks.due("lambdas and method references", count(code, "->|::"), 0);
        Checks.due("strings", count(code, "\""), 0);
        Checks.due("arrays of arrays", count(code, "\\[\\]\\s*\\[\\]"), 0);
        Checks.due("calls on other objects", count(code, "\\w\\s*\\.\\s*\\w"), 0);
        Checks.due("calls inside the arguments of a call", count(callsOnly(code), "\\w+\\([^()]*\\b\\w+\\("), 0);
        for (String line : code.split("\n")) {
            if (line.contains("new ") && !ARRAY_IN_FIELD.matcher(line).matches()) {
                Checks.due("making an array", line.trim(), "in a field's initialiser");
            }
            if (line.contains(" static ") && line.contains(" = ")) {
                Checks.due("a static field '" + line.trim() + "'", count(line, "static final (int|long) "), 1);
            }
        }
        Checks.end();
    }

    /** The code without the heads of statements, whose parentheses are no arguments. */
    private static String callsOnly(String code) {
        return code.replaceAll("\\b(if|for|while|switch|return)\\b\\s*\\(?", ";");
    }

    private static int count(String text, String pattern) {
        Matcher matcher = Pattern.compile(pattern).matcher(text);
        int found = 0;
        while (matcher.find()) {
            found++;
        }
        return found;
    }
}
