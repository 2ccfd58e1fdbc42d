import java.io.IOException;
import java.nio.file.Files;
import java.nio.file.Path;
import java.util.ArrayList;
import java.util.List;
import java.util.regex.MatchResult;
import java.util.regex.Pattern;

/** README.md: its example answers as it says, and its list of calls is that of the document (promises 1 to 39). */
public final class ReadmeTest {
    private static final Pattern EXAMPLE = Pattern.compile("(?m)^court\\.(\\w+)\\(([^)]*)\\);\\s+// (-?\\d+)\\b");
    private static final Pattern LISTED = Pattern.compile("(?m)^\\| (\\d+) \\| `(\\w+\\([^)]*\\))` \\|");
    private static final Pattern PROMISED = Pattern.compile("(?m)^## Promise (\\d+):.*\\R\\R`(?:int )?(\\w+\\([^)]*\\))`:");

    public static void main(String[] args) throws IOException {
        String readme = Files.readString(Path.of("README.md"));
        exampleAnswersAsItSays(readme);
        callsAreThoseOfTheDocument(readme, Files.readString(Path.of("../shared/DOC.md")));
        everyTestIsNamed(readme);
        Due.end();
    }

    private static void exampleAnswersAsItSays(String readme) {
        TallyCourt court = new TallyCourt();
        List<MatchResult> rows = EXAMPLE.matcher(readme).results().toList();
        for (MatchResult row : rows) {
            Due.is(court, row.group(1) + " " + row.group(2).replace(",", ""), Integer.parseInt(row.group(3)));
        }
        Due.same("rows of the example that say their answer", rows.size(),
            readme.lines().filter(line -> line.startsWith("court.")).count());
        Due.holds("the example has rows", !rows.isEmpty());
    }

    private static void callsAreThoseOfTheDocument(String readme, String document) {
        List<String> due = calls(PROMISED, document);
        List<String> listed = calls(LISTED, readme);
        Due.same("promises of the document", due.size(), 39);
        Due.holds("the calls are " + due + ", listed are " + listed, listed.equals(due));
    }

    /** Each as number and call; of the arguments their names alone. */
    private static List<String> calls(Pattern pattern, String text) {
        List<String> all = new ArrayList<>();
        pattern.matcher(text).results().forEach(row -> all.add(row.group(1) + " " + row.group(2).replace("int ", "")));
        return all;
    }

    private static void everyTestIsNamed(String readme) throws IOException {
        try (var files = Files.list(Path.of("src/test/java"))) {
            files.map(file -> file.getFileName().toString().replace(".java", "")).filter(name -> name.endsWith("Test"))
                .forEach(name -> Due.holds("README.md names " + name, readme.contains("`" + name + "`")));
        }
    }
}
