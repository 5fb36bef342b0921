import java.io.IOException;
import java.io.UncheckedIOException;
import java.nio.file.Files;
import java.nio.file.Path;
import java.util.StringJoiner;

/** Counts and prints the answers that are not as due, and ends a test with the exit code for that. */
final class Check {
    private static final Path DOCUMENT = Path.of("../shared/DOC.md");

    private static int asked = 0;
    private static int wrong = 0;
    private static String document = "";
    private static String sentence = "";

    private Check() {
    }

    /** What is asked from here on is asked for this sentence, which must stand so in the document. */
    static void says(String words) {
        if (document.isEmpty()) {
            document = read(DOCUMENT).replaceAll("\\s+", " ");
        }
        sentence = "";
        due("whether the document says '" + words + "'", document.contains(words), true);
        sentence = "'" + words + "': ";
    }

    private static String read(Path path) {
        try {
            return Files.readString(path);
        } catch (IOException e) {
            throw new UncheckedIOException(e);
        }
    }

    static void due(String what, Object got, Object want) {
        asked++;
        if (!want.equals(got)) {
            wrong++;
            System.out.println(sentence + what + " answered " + got + ", due is " + want);
        }
    }

    /** Several answers at once, as in "4 10 0". */
    static void row(String what, String want, int... got) {
        due(what, joined(got), want);
    }

    private static String joined(int... numbers) {
        StringJoiner joined = new StringJoiner(" ");
        for (int number : numbers) {
            joined.add(Integer.toString(number));
        }
        return joined.toString();
    }

    /** All that can be asked of an object, but for VOIDS and SPANS, which follow from it. */
    static String everything(LightBursts x) {
        StringBuilder all = new StringBuilder();
        for (int what = 0; what <= 22; what++) {
            all.append(x.count(what)).append(' ');
        }
        for (int burst = 0; burst < x.count(1); burst++) {
            all.append("\nburst ").append(burst).append(':');
            for (int what = 0; what <= 10; what++) {
                all.append(' ').append(x.burst(burst, what));
            }
        }
        for (int line = 0; line < 3; line++) {
            all.append("\nline ").append(line).append(':');
            for (int i = 0; x.held(line, i, 0) >= 0; i++) {
                all.append(' ').append(x.held(line, i, 0)).append('+').append(x.held(line, i, 1));
            }
        }
        return all.toString();
    }

    /**
     * A call that must be refused, and must change nothing. It asks for everything twice:
     * two or three such on one object are enough, as it is promised for 512 calls alone.
     */
    static void refused(LightBursts x, String what, int want, Call call) {
        String before = everything(x);
        due(what, call.on(x), want);
        due(what + " changes nothing: everything", everything(x), before);
    }

    static void end() {
        System.out.println(asked + " answers asked, " + wrong + " not as due");
        if (wrong != 0) {
            System.exit(1);
        }
    }

    interface Call {
        int on(LightBursts x);
    }
}
