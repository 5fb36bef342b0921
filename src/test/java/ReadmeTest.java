import java.io.IOException;
import java.nio.file.Files;
import java.nio.file.Path;
import java.util.Set;
import java.util.TreeSet;
import java.util.regex.Matcher;
import java.util.regex.Pattern;

/** README.md: its example answers as it says, and it tells of each call of the document's face. */
public final class ReadmeTest {
    private static final Pattern CALL = Pattern.compile("x\\.((\\w+)\\([^)]*\\)); +// (-?\\d+):");
    private static final Pattern FACE = Pattern.compile("public int ((\\w+)\\([^)]*\\));");

    public static void main(String[] args) throws IOException {
        String readme = Files.readString(Path.of("README.md"));
        String document = Files.readString(Path.of("../shared/DOC.md"));
        Set<String> used = exampleAnswersAsTold(readme);
        everyCallIsTold(readme, document, used);
        testsAreTold(readme);
        Check.end();
    }

    private static Set<String> exampleAnswersAsTold(String readme) {
        Set<String> used = new TreeSet<>();
        Run run = new Run();
        long lines = readme.lines().filter(line -> line.startsWith("x.")).count();
        Matcher call = CALL.matcher(readme);
        while (call.find()) {
            run.due(call.group(1), Integer.parseInt(call.group(3)));
            used.add(call.group(2));
        }
        Check.due("how many calls of the example were made", (long) run.howManyCalls(), lines);
        return used;
    }

    private static void everyCallIsTold(String readme, String document, Set<String> used) {
        Matcher face = FACE.matcher(document);
        int calls = 0;
        while (face.find()) {
            calls++;
            Check.due("README.md tells of " + face.group(1), readme.contains("| `" + face.group(1) + "` |"), true);
            Check.due("its example has " + face.group(2), used.contains(face.group(2)), true);
        }
        Check.due("how many calls the document has", calls, 17);
    }

    private static void testsAreTold(String readme) throws IOException {
        Check.due("README.md tells how to run the tests", readme.contains("\n    .ci/run\n"), true);
        try (var files = Files.list(Path.of("src/test/java"))) {
            files.map(file -> file.getFileName().toString()).filter(name -> name.endsWith(".java")).forEach(name ->
                    Check.due("README.md tells of " + name, readme.contains("| `" + name.replace(".java", "") + "` |"), true));
        }
    }
}
