import java.io.IOException;
import java.lang.reflect.Method;
import java.lang.reflect.Modifier;
import java.nio.file.Files;
import java.nio.file.Path;
import java.util.HashMap;
import java.util.Map;
import java.util.regex.Matcher;
import java.util.regex.Pattern;

/** What README.md says of the class holds: its calls, its programs, its list of the face. */
public final class ReadmeTest {
    private static final Pattern CALL = Pattern.compile("x\\.(\\w+)\\(([^)]*)\\);\\s*// (-?\\d+): .*");
    private static final Pattern PROGRAM_ROW = Pattern.compile("(?m)^\\| `(\\S+)` \\| [^`|].*\\|$");

    private static Checks checks;

    public static void main(String[] args) throws ReflectiveOperationException, IOException {
        checks = new Checks("ReadmeTest");
        String page = Files.readString(Path.of("README.md"));
        Map<String, Method> face = face();
        callsAnswerAsTold(block(page), face);
        everyCallIsNamed(page, face);
        programsAreRead(page);
        checks.end();
    }

    private static Map<String, Method> face() {
        Map<String, Method> face = new HashMap<>();
        for (Method method : LaneSlices.class.getDeclaredMethods()) {
            if (Modifier.isPublic(method.getModifiers())) {
                face.put(method.getName(), method);
            }
        }
        return face;
    }

    private static String[] block(String page) {
        int begin = page.indexOf("```java\n");
        int end = page.indexOf("\n```", begin + 1);
        checks.holds("README.md has a block of Java", begin >= 0 && end > begin);
        return begin >= 0 && end > begin ? page.substring(begin + "```java\n".length(), end).split("\n") : new String[0];
    }

    private static void callsAnswerAsTold(String[] lines, Map<String, Method> face) throws ReflectiveOperationException {
        LaneSlices x = new LaneSlices();
        int made = 0;
        for (String line : lines) {
            Matcher call = CALL.matcher(line);
            if (call.matches()) {
                Method method = face.get(call.group(1));
                checks.holds("of the face: " + line, method != null);
                if (method != null) {
                    Number got = (Number) method.invoke(x, numbers(call.group(2), method.getParameterTypes()));
                    checks.due(line, got.longValue(), Long.parseLong(call.group(3)));
                    made++;
                }
            } else {
                checks.holds("a call and its answer: " + line, line.equals("LaneSlices x = new LaneSlices();"));
            }
        }
        checks.holds("README.md makes calls", made > 0);
    }

    private static Object[] numbers(String told, Class<?>[] types) {
        Object[] numbers = new Object[types.length];
        String[] words = told.split(", ");
        for (int i = 0; i < types.length; i++) {
            long number = Long.decode(words[i].replace("L", ""));
            numbers[i] = types[i] == long.class ? (Object) number : (Object) (int) number;
        }
        return numbers;
    }

    private static void everyCallIsNamed(String page, Map<String, Method> face) {
        for (String name : face.keySet()) {
            checks.holds("README.md names " + name, page.contains("`" + name + "`"));
        }
    }

    private static void programsAreRead(String page) {
        Matcher row = PROGRAM_ROW.matcher(page);
        int found = 0;
        while (row.find()) {
            // A | within a table is told as \|.
            String text = row.group(1).replace("\\|", "|");
            checks.holds("a program: " + text, Make.textOf(text) > 0);
            found++;
        }
        checks.due("programs in README.md", found, 4);
    }
}
