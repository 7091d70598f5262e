import java.io.IOException;
import java.nio.file.Files;
import java.nio.file.Path;
import java.util.regex.Matcher;
import java.util.regex.Pattern;
import java.util.stream.Stream;

/** What README.md tells of the class: its example answers what it says, and every method is told of. */
public final class ReadmeTest {
    private static final Pattern MAKING = Pattern.compile("new LinearCodes\\((-?\\d+)\\);");
    private static final Pattern CALL = Pattern.compile("(?m)^x\\.(\\w+)\\(([-\\d, ]*)\\); +// (-?\\d+)");

    public static void main(String[] args) throws IOException {
        String readme = Files.readString(Path.of("README.md"));
        exampleHolds(readme);
        everyMethodIsToldOf(readme);
        Checks.end();
    }

    private static void exampleHolds(String readme) {
        Matcher making = MAKING.matcher(readme);
        Checks.due("objects that the example makes", making.results().count(), 1);
        making.reset().find();
        LinearCodes x = new LinearCodes(Integer.parseInt(making.group(1)));
        Matcher line = CALL.matcher(readme);
        int lines = 0;
        while (line.find()) {
            lines++;
            int[] arguments = numbers(line.group(2));
            Call call = called(line.group(1));
            Checks.due("README's x." + call.with(arguments), call.of(x, arguments), Integer.parseInt(line.group(3)));
        }
        // A line of another form must not be passed over.
        long linesThere = readme.lines().filter(text -> text.startsWith("x.")).count();
        Checks.due("lines of the example that were tried", lines, linesThere);
    }

    private static void everyMethodIsToldOf(String readme) {
        for (Call call : Call.ALL) {
            long rows = readme.lines().filter(row -> row.startsWith("| `" + call.name() + "(")).count();
            Checks.due("rows of README's tables for " + call.name(), rows, 1);
        }
    }

    private static Call called(String name) {
        return Call.ALL.stream().filter(call -> call.name().equals(name)).findAny().orElseThrow();
    }

    private static int[] numbers(String list) {
        return Stream.of(list.split(",")).map(String::trim).filter(text -> !text.isEmpty())
                .mapToInt(Integer::parseInt).toArray();
    }
}
