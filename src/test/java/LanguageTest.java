import java.io.IOException;
import java.lang.reflect.Field;
import java.lang.reflect.Method;
import java.lang.reflect.Modifier;
import java.nio.file.Files;
import java.nio.file.Path;
import java.util.List;
import java.util.Set;
import java.util.TreeSet;
import java.util.regex.Pattern;

/** Rules of ../shared/LANGUAGE.md that can be seen from the file or from its classes. */
public final class LanguageTest {
    private static final Path FILE = Path.of("src/main/java/LabelHouse.java");
    private static final String[] WORDS = {"synchronized", "assert", "finally", "try", "catch", "lambda", "instanceof",
        "volatile", "float", "double", "System.out", "Math.random", "nanoTime", "currentTimeMillis", "package"};

    public static void main(String[] args) throws IOException {
        Check check = new Check();
        words(check);
        classes(check);
        check.exit();
    }

    private static void words(Check check) throws IOException {
        check.begin("the language: words");
        List<String> lines = Files.readAllLines(FILE);
        for (int i = 0; i < lines.size(); i++) {
            String line = lines.get(i).replaceAll("//.*|/\\*\\*.*", "");
            String where = "line " + (i + 1) + ": ";
            for (String word : WORDS) {
                check.isTrue(where + word, !Pattern.compile("(?<![\\w.])" + Pattern.quote(word) + "(?!\\w)").matcher(line).find());
            }
            check.isTrue(where + "an import", !line.startsWith("import") || line.equals("import java.util.Arrays;"));
            check.isTrue(where + "a lambda or method reference", !line.contains("->") && !line.contains("::"));
            check.isTrue(where + "a static block", !line.matches("\\s*static\\s*\\{.*"));
            check.isTrue(where + "characters", line.chars().allMatch(c -> c < 128));
        }
        check.end();
    }

    private static void classes(Check check) {
        check.begin("the language: classes");
        Set<String> face = new TreeSet<>();
        for (Method method : LabelHouse.class.getDeclaredMethods()) {
            if (Modifier.isPublic(method.getModifiers())) {
                face.add(method.getName());
            }
        }
        Class<?>[] inside = LabelHouse.class.getDeclaredClasses();
        check.isTrue("at most twelve classes", inside.length + 1 <= 12);
        ofClass(check, LabelHouse.class, face);
        for (Class<?> each : inside) {
            check.isTrue(each + " is static", Modifier.isStatic(each.getModifiers()));
            check.isTrue(each + " is not public", !Modifier.isPublic(each.getModifiers()));
            ofClass(check, each, face);
        }
        check.end();
    }

    private static void ofClass(Check check, Class<?> each, Set<String> face) {
        int fields = 0;
        for (Field field : each.getDeclaredFields()) {
            boolean isStatic = Modifier.isStatic(field.getModifiers());
            check.isTrue(field + " is final if it is static", !isStatic || Modifier.isFinal(field.getModifiers()));
            fields += isStatic ? 0 : 1;
        }
        check.isTrue(each + " has at most twenty fields", fields <= 20);
        for (Method method : each.getDeclaredMethods()) {
            check.isTrue(method + " has at most seven parameters", method.getParameterCount() <= 7);
            boolean own = each != LabelHouse.class || !Modifier.isPublic(method.getModifiers());
            check.isTrue(method + " has a name of its own", !own || !face.contains(method.getName()));
        }
    }
}
