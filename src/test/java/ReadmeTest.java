import java.io.IOException;
import java.lang.reflect.Method;
import java.lang.reflect.Modifier;
import java.nio.file.Files;
import java.nio.file.Path;
import java.util.Set;
import java.util.TreeSet;
import java.util.regex.Matcher;
import java.util.regex.Pattern;

/** README.md's example answers what it says, and its table tells every call of the face. */
public final class ReadmeTest {
    private static final Pattern ANSWERED = Pattern.compile("x\\.(\\w+)\\((.*?)\\); +// (-?\\d+)(:.*)?");
    private static final Pattern ROW = Pattern.compile("\\| `(\\w+)\\((.*?)\\)` \\|.*");

    private ReadmeTest() {
    }

    public static void main(String[] args) throws IOException, ReflectiveOperationException {
        String text = Files.readString(Path.of("README.md"));
        example(text);
        table(text);
        Check.end();
    }

    private static void example(String text) throws ReflectiveOperationException {
        HotGround x = new HotGround();
        int calls = 0;
        for (String line : text.split("\n")) {
            if (line.startsWith("x.")) {
                Matcher call = ANSWERED.matcher(line);
                boolean told = call.matches();
                Check.due("an answer stands beside " + line, told ? 1 : 0, 1);
                if (told) {
                    Check.due(line, answer(x, call.group(1), call.group(2)), Long.parseLong(call.group(3)));
                    calls++;
                }
            }
        }
        Check.due("the example is seen", calls > 20 ? 1 : 0, 1);
    }

    private static long answer(HotGround x, String name, String told) throws ReflectiveOperationException {
        String[] words = told.isEmpty() ? new String[0] : told.split(", ");
        Object[] numbers = new Object[words.length];
        Class<?>[] types = new Class<?>[words.length];
        for (int i = 0; i < words.length; i++) {
            boolean truth = words[i].equals("true") || words[i].equals("false");
            types[i] = truth ? boolean.class : int.class;
            numbers[i] = truth ? (Object) Boolean.valueOf(words[i]) : (Object) Integer.valueOf(words[i]);
        }
        return ((Number) HotGround.class.getMethod(name, types).invoke(x, numbers)).longValue();
    }

    private static void table(String text) {
        Set<String> rows = new TreeSet<>();
        for (String line : text.split("\n")) {
            Matcher row = ROW.matcher(line);
            if (row.matches()) {
                int asked = row.group(2).isEmpty() ? 0 : row.group(2).split(", ").length;
                rows.add(row.group(1) + " " + asked);
            }
        }
        Set<String> face = new TreeSet<>();
        for (Method method : HotGround.class.getDeclaredMethods()) {
            if (Modifier.isPublic(method.getModifiers())) {
                face.add(method.getName() + " " + method.getParameterCount());
            }
        }
        Check.same("the calls in the table", rows.toString(), face.toString());
    }
}
