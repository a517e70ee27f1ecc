import java.io.IOException;
import java.lang.reflect.Field;
import java.lang.reflect.Method;
import java.lang.reflect.Modifier;
import java.nio.file.Files;
import java.nio.file.Path;
import java.util.List;
import java.util.Set;
import java.util.TreeSet;
import java.util.regex.Matcher;
import java.util.regex.Pattern;

/** Rules of ../shared/LANGUAGE.md that can be seen from the file or from its classes. */
public final class LanguageTest {
    private static final Path FILE = Path.of("src/main/java/LabelHouse.java");
    private static final String[] WORDS = {"synchronized", "assert", "finally", "try", "catch", "lambda", "instanceof",
        "volatile", "float", "double", "System.out", "Math.random", "nanoTime", "currentTimeMillis", "package"};

    private static final Set<String> LIBRARY = Set.of("Math.min", "Math.max", "Math.abs", "Math.floorDiv", "Math.floorMod",
        "Integer.bitCount", "Long.bitCount", "Arrays.fill", "System.arraycopy");
    private static final Set<String> THROWN = Set.of("IllegalArgumentException", "IndexOutOfBoundsException");

    public static void main(String[] args) throws IOException {
        Check check = new Check();
        words(check);
        calls(check);
        methods(check);
        classes(check);
        check.exit();
    }

    private static void words(Check check) throws IOException {
        check.begin("the language: words");
        List<String> lines = Files.readAllLines(FILE);
        for (int i = 0; i < lines.size(); i++) {
            String line = lines.get(i).replaceAll("//.*|/\\*\\*.*", "");
            String where = "line " + (i + 1) + ": ";
            for (String word : WORDS) {
                check.isTrue(where + word, !Pattern.compile("(?<![\\w.])" + Pattern.quote(word) + "(?!\\w)").matcher(line).find());
            }
            check.isTrue(where + "an import", !line.startsWith("import") || line.equals("import java.util.Arrays;"));
            check.isTrue(where + "a lambda or method reference", !line.contains("->") && !line.contains("::"));
            check.isTrue(where + "a static block", !line.matches("\\s*static\\s*\\{.*"));
            check.isTrue(where + "characters", line.chars().allMatch(c -> c < 128));
        }
        check.end();
    }

    /** Rules 4 and 6: what is called of the library, what is thrown and what is made. */
    private static void calls(Check check) throws IOException {
        check.begin("the language: the library, what is thrown and what is made");
        Pattern library = Pattern.compile("\\b(Math|Integer|Long|Arrays|System|String|Object|Character)\\.(\\w+)");
        Pattern made = Pattern.compile("\\bnew (\\w+)([\\[(]?)");
        List<String> lines = Files.readAllLines(FILE);
        for (int i = 0; i < lines.size(); i++) {
            String where = "line " + (i + 1) + ": ";
            Matcher call = library.matcher(lines.get(i));
            while (call.find()) {
                check.isTrue(where + call.group(), LIBRARY.contains(call.group()));
            }
            Matcher object = made.matcher(lines.get(i));
            while (object.find()) {
                boolean thrown = lines.get(i).contains("throw new " + object.group(1) + "();");
                boolean kept = !THROWN.contains(object.group(1)) && lines.get(i).contains(" = new ");
                check.isTrue(where + object.group(), thrown ? THROWN.contains(object.group(1)) : kept);
            }
        }
        check.end();
    }

    /** Rule 11: methods stay short. Each begins with its head and ends with a brace that stands as far to the right. */
    private static void methods(Check check) throws IOException {
        check.begin("the language: methods are short");
        Pattern head = Pattern.compile("((?: {4}){1,2})[\\w\\[\\]<> ]+\\(.*\\{");
        List<String> lines = Files.readAllLines(FILE);
        int count = 0;
        for (int i = 0; i < lines.size(); i++) {
            Matcher method = head.matcher(lines.get(i));
            if (method.matches() && !lines.get(i).contains(" new ")) {
                int end = i;
                while (!lines.get(end).equals(method.group(1) + "}")) {
                    end++;
                }
                check.isTrue("line " + (i + 1) + ": at most sixty lines, not " + (end - i + 1), end - i + 1 <= 60);
                count++;
            }
        }
        check.isTrue("methods are seen", count > 100);
        check.end();
    }

    private static void classes(Check check) {
        check.begin("the language: classes");
        Set<String> face = new TreeSet<>();
        for (Method method : LabelHouse.class.getDeclaredMethods()) {
            if (Modifier.isPublic(method.getModifiers())) {
                face.add(method.getName());
            }
        }
        Class<?>[] inside = LabelHouse.class.getDeclaredClasses();
        check.isTrue("at most twelve classes", inside.length + 1 <= 12);
        ofClass(check, LabelHouse.class, face);
        for (Class<?> each : inside) {
            check.isTrue(each + " is static", Modifier.isStatic(each.getModifiers()));
            check.isTrue(each + " is not public", !Modifier.isPublic(each.getModifiers()));
            ofClass(check, each, face);
        }
        check.end();
    }

    private static void ofClass(Check check, Class<?> each, Set<String> face) {
        int fields = 0;
        for (Field field : each.getDeclaredFields()) {
            boolean isStatic = Modifier.isStatic(field.getModifiers());
            check.isTrue(field + " is final if it is static", !isStatic || Modifier.isFinal(field.getModifiers()));
            fields += isStatic ? 0 : 1;
        }
        check.isTrue(each + " has at most twenty fields", fields <= 20);
        for (Method method : each.getDeclaredMethods()) {
            check.isTrue(method + " has at most seven parameters", method.getParameterCount() <= 7);
            boolean own = each != LabelHouse.class || !Modifier.isPublic(method.getModifiers());
            check.isTrue(method + " has a name of its own", !own || !face.contains(method.getName()));
        }
    }
}
