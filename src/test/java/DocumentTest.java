import java.io.IOException;
import java.nio.file.Files;
import java.nio.file.Path;
import java.util.ArrayList;
import java.util.Arrays;
import java.util.List;
import java.util.regex.Matcher;
import java.util.regex.Pattern;

/** Each word of the document, from its first line to 'Not promised', stands in a sentence for which some test asks. */
public final class DocumentTest {
    private static final Pattern QUOTE = Pattern.compile("Check\\.says\\(((?:\\s*\"(?:[^\"\\\\]|\\\\.)*\"\\s*\\+?)+)\\)");
    private static final Pattern TEXT = Pattern.compile("\"((?:[^\"\\\\]|\\\\.)*)\"");
    private static final Pattern WORD = Pattern.compile("[A-Za-z0-9]+");
    /** Headings, the face (which FaceTest holds), marks between the parts, and what names a call ahead of its promise. */
    private static final Pattern NO_SENTENCE = Pattern.compile("^(#.*|Light that cannot wait\\.|Ahead of the calls .*)$"
            + "|(?s:```java.*?```)|```text|======== \\d|`int \\w+\\([^)]*\\)`:|^ +RULES:", Pattern.MULTILINE);

    public static void main(String[] args) throws IOException {
        String document = Files.readString(Path.of("../shared/DOC.md"));
        String promised = document.substring(0, document.indexOf("## Not promised"));
        String sentences = NO_SENTENCE.matcher(promised).replaceAll(" ").replaceAll("\\s+", " ");
        boolean[] quoted = new boolean[sentences.length()];
        for (String quote : quotes()) {
            mark(sentences, quote, quoted);
        }
        Matcher word = WORD.matcher(sentences);
        while (word.find()) {
            Check.due("a test for '" + about(sentences, word.start()) + "'", quoted[word.start()], true);
        }
        Check.end();
    }

    private static List<String> quotes() throws IOException {
        List<String> quotes = new ArrayList<>();
        try (var files = Files.list(Path.of("src/test/java"))) {
            for (Path file : files.filter(f -> f.toString().endsWith("Test.java")).toList()) {
                Matcher quote = QUOTE.matcher(Files.readString(file));
                while (quote.find()) {
                    StringBuilder joined = new StringBuilder();
                    TEXT.matcher(quote.group(1)).results().forEach(text -> joined.append(text.group(1)));
                    quotes.add(joined.toString());
                }
            }
        }
        return quotes;
    }

    private static void mark(String sentences, String quote, boolean[] quoted) {
        for (int at = sentences.indexOf(quote); at >= 0; at = sentences.indexOf(quote, at + 1)) {
            Arrays.fill(quoted, at, at + quote.length(), true);
        }
    }

    private static String about(String sentences, int at) {
        return sentences.substring(Math.max(0, at - 30), Math.min(sentences.length(), at + 30));
    }
}
