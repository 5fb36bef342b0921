import java.io.IOException;
import java.lang.reflect.Constructor;
import java.lang.reflect.Field;
import java.lang.reflect.Method;
import java.lang.reflect.Modifier;
import java.nio.file.Files;
import java.nio.file.Path;
import java.util.Arrays;
import java.util.Set;
import java.util.TreeSet;
import java.util.regex.Matcher;
import java.util.regex.Pattern;

/** The public face of the document, and those rules of LANGUAGE.md that a text or a mirror shows. */
public final class FaceTest {
    private static final Path SOURCE = Path.of("src/main/java/LightBursts.java");

    public static void main(String[] args) throws IOException {
        constants();
        constructor();
        methods();
        fields();
        nestedClasses();
        words();
        Check.end();
    }

    private static void constants() {
        Check.row("the constants", "-1 -2 -3 -4 -5 -6", LightBursts.UNKNOWN, LightBursts.OUTSIDE,
                LightBursts.STATE, LightBursts.FULL, LightBursts.NO, LightBursts.NONE);
    }

    private static void constructor() {
        Constructor<?>[] made = LightBursts.class.getDeclaredConstructors();
        Check.due("how many constructors", made.length, 1);
        Check.due("the constructor's parameters", made[0].getParameterCount(), 0);
        Check.due("the constructor is public", Modifier.isPublic(made[0].getModifiers()), true);
        Check.due("the class is public and final", LightBursts.class.getModifiers(), Modifier.PUBLIC | Modifier.FINAL);
    }

    private static void methods() {
        Set<String> open = new TreeSet<>();
        Set<String> names = new TreeSet<>();
        for (Method method : LightBursts.class.getDeclaredMethods()) {
            if (!Modifier.isPrivate(method.getModifiers())) {
                Check.due(method + " is public alone", method.getModifiers(), Modifier.PUBLIC);
                Check.due(method + " answers", method.getReturnType(), int.class);
                Check.due(method + " takes ints", Arrays.stream(method.getParameterTypes()).allMatch(t -> t == int.class), true);
                open.add(method.getName() + method.getParameterCount());
                names.add(method.getName());
            }
        }
        Check.due("the methods", open.toString(), "[back1, booking4, burst2, busy4, count1, free3, held3, hole4, "
                + "image1, line2, next4, pass1, restore1, rule2, tally2, tell5, would5]");
        for (Class<?> type : allClasses()) {
            for (Method method : type.getDeclaredMethods()) {
                Check.due(method + " has at most seven parameters", method.getParameterCount() <= 7, true);
                if (Modifier.isPrivate(method.getModifiers())) {
                    Check.due(method + " has a public one's name", names.contains(method.getName()), false);
                }
            }
        }
    }

    private static void fields() {
        for (Class<?> type : allClasses()) {
            int own = 0;
            for (Field field : type.getDeclaredFields()) {
                int modifiers = field.getModifiers();
                if (Modifier.isStatic(modifiers)) {
                    Check.due(field + " is final", Modifier.isFinal(modifiers), true);
                } else {
                    own++;
                }
                if (type == LightBursts.class && !Modifier.isPublic(modifiers)) {
                    Check.due(field + " is private", Modifier.isPrivate(modifiers), true);
                }
            }
            Check.due(type + " has at most twenty fields", own <= 20, true);
        }
        long open = Arrays.stream(LightBursts.class.getDeclaredFields())
                .filter(f -> Modifier.isPublic(f.getModifiers())).count();
        Check.due("how many public fields", open, 6L);
    }

    private static void nestedClasses() {
        Class<?>[] inside = LightBursts.class.getDeclaredClasses();
        Check.due("at most twelve classes", inside.length + 1 <= 12, true);
        for (Class<?> type : inside) {
            int modifiers = type.getModifiers();
            Check.due(type + " is static", Modifier.isStatic(modifiers), true);
            Check.due(type + " is hidden", Modifier.isPublic(modifiers) || Modifier.isProtected(modifiers), false);
        }
    }

    private static Class<?>[] allClasses() {
        Class<?>[] inside = LightBursts.class.getDeclaredClasses();
        Class<?>[] all = Arrays.copyOf(inside, inside.length + 1);
        all[inside.length] = LightBursts.class;
        return all;
    }

    private static void words() throws IOException {
        String code = Files.readString(SOURCE).replaceAll("(?s)/\\*.*?\\*/", " ").replaceAll("//[^\n]*", " ");
        Matcher ruledOut = Pattern.compile("\\b(throw|throws|try|catch|synchronized|assert|import|package|protected"
                + "|Exact|System\\.(?!arraycopy)\\w+|Thread|Random|Object|equals|hashCode|toString)\\b|->|::").matcher(code);
        while (ruledOut.find()) {
            Check.due("a word that LANGUAGE.md rules out", ruledOut.group(), "none");
        }
        Check.due("the source holds ASCII alone", code.chars().allMatch(sign -> sign < 128), true);
    }
}
