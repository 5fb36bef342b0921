import java.io.IOException;
import java.lang.reflect.Constructor;
import java.lang.reflect.Field;
import java.lang.reflect.Method;
import java.lang.reflect.Modifier;
import java.nio.file.Files;
import java.nio.file.Path;
import java.util.Arrays;
import java.util.List;
import java.util.Set;
import java.util.TreeSet;
import java.util.regex.Matcher;
import java.util.regex.Pattern;

/** The public face of the document, and those rules of LANGUAGE.md that a text or a mirror shows. */
public final class FaceTest {
    private static final Path SOURCE = Path.of("src/main/java/LightBursts.java");
    private static final Path DOCUMENT = Path.of("../shared/DOC.md");
    /** What the class takes of the library; LANGUAGE.md has more, and what is new here must be looked up there. */
    private static final Set<String> LIBRARY = Set.of("Math.max", "Math.min", "Math.abs", "System.arraycopy", "RULE_AT_FIRST.clone");
    private static final int MOST_LINES = 60;

    public static void main(String[] args) throws IOException {
        constants();
        constructor();
        methods();
        fields();
        nestedClasses();
        words();
        faceAsTheDocumentHasIt();
        partsAsTheInterfaceSays();
        libraryAndTypes();
        methodsAreShort();
        Check.end();
    }

    private static void constants() {
        Check.row("the constants", "-1 -2 -3 -4 -5 -6", LightBursts.UNKNOWN, LightBursts.OUTSIDE,
                LightBursts.STATE, LightBursts.FULL, LightBursts.NO, LightBursts.NONE);
    }

    private static void constructor() {
        Constructor<?>[] made = LightBursts.class.getDeclaredConstructors();
        Check.due("how many constructors", made.length, 1);
        Check.due("the constructor's parameters", made[0].getParameterCount(), 0);
        Check.due("the constructor is public", Modifier.isPublic(made[0].getModifiers()), true);
        Check.due("the class is public and final", LightBursts.class.getModifiers(), Modifier.PUBLIC | Modifier.FINAL);
    }

    private static void methods() {
        Set<String> open = new TreeSet<>();
        Set<String> names = new TreeSet<>();
        for (Method method : LightBursts.class.getDeclaredMethods()) {
            if (!Modifier.isPrivate(method.getModifiers())) {
                Check.due(method + " is public alone", method.getModifiers(), Modifier.PUBLIC);
                Check.due(method + " answers", method.getReturnType(), int.class);
                Check.due(method + " takes ints", Arrays.stream(method.getParameterTypes()).allMatch(t -> t == int.class), true);
                open.add(method.getName() + method.getParameterCount());
                names.add(method.getName());
            }
        }
        Check.due("the methods", open.toString(), "[back1, booking4, burst2, busy4, count1, free3, held3, hole4, "
                + "image1, line2, next4, pass1, restore1, rule2, tally2, tell5, would5]");
        for (Class<?> type : allClasses()) {
            for (Method method : type.getDeclaredMethods()) {
                Check.due(method + " has at most seven parameters", method.getParameterCount() <= 7, true);
                if (Modifier.isPrivate(method.getModifiers())) {
                    Check.due(method + " has a public one's name", names.contains(method.getName()), false);
                }
            }
        }
    }

    private static void fields() {
        for (Class<?> type : allClasses()) {
            int own = 0;
            for (Field field : type.getDeclaredFields()) {
                int modifiers = field.getModifiers();
                if (Modifier.isStatic(modifiers)) {
                    Check.due(field + " is final", Modifier.isFinal(modifiers), true);
                } else {
                    own++;
                }
                if (type == LightBursts.class && !Modifier.isPublic(modifiers)) {
                    Check.due(field + " is private", Modifier.isPrivate(modifiers), true);
                }
            }
            Check.due(type + " has at most twenty fields", own <= 20, true);
        }
        long open = Arrays.stream(LightBursts.class.getDeclaredFields())
                .filter(f -> Modifier.isPublic(f.getModifiers())).count();
        Check.due("how many public fields", open, 6L);
    }

    private static void nestedClasses() {
        Class<?>[] inside = LightBursts.class.getDeclaredClasses();
        Check.due("at most twelve classes", inside.length + 1 <= 12, true);
        for (Class<?> type : inside) {
            int modifiers = type.getModifiers();
            Check.due(type + " is static", Modifier.isStatic(modifiers), true);
            Check.due(type + " is hidden", Modifier.isPublic(modifiers) || Modifier.isProtected(modifiers), false);
        }
    }

    private static Class<?>[] allClasses() {
        Class<?>[] inside = LightBursts.class.getDeclaredClasses();
        Class<?>[] all = Arrays.copyOf(inside, inside.length + 1);
        all[inside.length] = LightBursts.class;
        return all;
    }

    private static String code() throws IOException {
        return Files.readString(SOURCE).replaceAll("(?s)/\\*.*?\\*/", " ").replaceAll("//[^\n]*", " ");
    }

    private static void words() throws IOException {
        String code = code();
        Matcher ruledOut = Pattern.compile("\\b(throw|throws|try|catch|synchronized|assert|import|package|protected"
                + "|Exact|System\\.(?!arraycopy)\\w+|Thread|Random|Object|equals|hashCode|toString)\\b|->|::").matcher(code);
        while (ruledOut.find()) {
            Check.due("a word that LANGUAGE.md rules out", ruledOut.group(), "none");
        }
        Check.due("the source holds ASCII alone", code.chars().allMatch(sign -> sign < 128), true);
    }

    /** Line by line, with the names of the parameters, and nothing public beside. */
    private static void faceAsTheDocumentHasIt() throws IOException {
        String document = Files.readString(DOCUMENT);
        int from = document.indexOf("```java") + "```java".length();
        String face = document.substring(from, document.indexOf("```", from));
        List<String> due = face.lines().map(String::strip).filter(line -> line.startsWith("public "))
                .map(line -> line.endsWith(");") ? line.replace(");", ") {") : line).toList();
        List<String> found = code().lines().map(String::strip).filter(line -> line.contains("public ")).toList();
        Check.due("the public lines of the class", String.join("\n", found), String.join("\n", due));
    }

    private static void partsAsTheInterfaceSays() throws IOException {
        String source = Files.readString(SOURCE);
        Matcher part = Pattern.compile("Ahead of the calls (.*) the interface says: (---- \\d [a-z ]+)\\.").matcher(Files.readString(DOCUMENT));
        int parts = 0;
        while (part.find()) {
            parts++;
            String first = part.group(1).split("`")[1];
            int says = source.indexOf("// " + part.group(2) + "\n");
            int call = source.indexOf("public int " + first + "(");
            Check.due(part.group(2) + " stands right ahead of " + first,
                    says >= 0 && source.substring(says, Math.max(says, call)).lines().filter(line -> !line.isBlank()).count() == 1, true);
        }
        Check.due("how many parts the interface has", parts, 4);
    }

    private static void libraryAndTypes() throws IOException {
        Matcher used = Pattern.compile("\\b([A-Z]\\w*)\\.(\\w+)").matcher(code());
        while (used.find()) {
            Check.due(used.group() + " is of the library that the class takes", LIBRARY.contains(used.group()), true);
        }
        Matcher type = Pattern.compile("\\b(?:new|private|final|static) ([A-Z][a-z]\\w*)").matcher(code());
        while (type.find()) {
            Check.due(type.group(1) + " is a class of its own", Set.of("Placer", "Book", "Track").contains(type.group(1)), true);
        }
    }

    private static void methodsAreShort() throws IOException {
        List<String> source = Files.readAllLines(SOURCE);
        Pattern head = Pattern.compile("( +)(?:public|private) .*\\) \\{");
        int methods = 0;
        for (int at = 0; at < source.size(); at++) {
            Matcher method = head.matcher(source.get(at));
            if (method.matches()) {
                methods++;
                int lines = source.subList(at, source.size()).indexOf(method.group(1) + "}") + 1;
                Check.due(source.get(at).strip() + " has at most " + MOST_LINES + " lines", lines > 0 && lines <= MOST_LINES, true);
            }
        }
        int compiled = Arrays.stream(allClasses()).mapToInt(type -> type.getDeclaredMethods().length).sum();
        Check.due("how many methods and constructors were looked at", methods, compiled + 1);
    }
}
