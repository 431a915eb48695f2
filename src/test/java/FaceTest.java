import java.io.IOException;
import java.lang.reflect.Constructor;
import java.lang.reflect.Field;
import java.lang.reflect.Method;
import java.lang.reflect.Modifier;
import java.nio.file.Files;
import java.nio.file.Path;
import java.util.Arrays;
import java.util.Set;
import java.util.TreeSet;
import java.util.regex.Matcher;
import java.util.regex.Pattern;

/** The public face, and those rules of LANGUAGE.md that can be seen in the text or by reflection. */
public final class FaceTest {
    private static final String[] METHODS = {
        "int well(int,int,int,int,int,int,int)", "int open(int,boolean)", "int clean(int)", "int flow(int,int)",
        "int about(int,int)", "int turbine(int,int,int)", "int on(int,boolean)", "int at(int,int)", "int point()",
        "int fill(int,int,int)", "int set(int,int,int)", "int year(int)", "long box(int,int)", "long sum(int)",
        "int share(int,int)", "int put(int)", "int back(int)", "int cut()", "int candidate(int,int,int)",
        "int promise(int,int)", "int plan(int)", "int lacks(int,int)", "int count(int)", "long trace()"};
    private static final String[] FORBIDDEN = {"package", "import", "throw", "throws", "try", "catch", "synchronized",
        "assert", "protected", "->", "::", "@", "Exact", "System.out", "Thread", "Object", "while (true)", "for (;"};

    private FaceTest() {
    }

    public static void main(String[] args) throws IOException {
        constants();
        members();
        classesInside();
        String text = Files.readString(Path.of("src/main/java/HotGround.java"));
        words(text);
        groups(text);
        lengths(text);
        loops(text);
        Check.end();
    }

    private static void constants() {
        Check.due("BAD", HotGround.BAD, -1);
        Check.due("STATE", HotGround.STATE, -2);
        Check.due("FULL", HotGround.FULL, -3);
        Check.due("NONE", HotGround.NONE, -9);
    }

    private static void members() {
        Set<String> found = new TreeSet<>();
        Set<String> hidden = new TreeSet<>();
        for (Method method : HotGround.class.getDeclaredMethods()) {
            if (Modifier.isPrivate(method.getModifiers())) {
                hidden.add(method.getName());
            } else {
                found.add(told(method));
                Check.due(method + " is public alone", method.getModifiers(), Modifier.PUBLIC);
            }
        }
        Check.same("methods", found.toString(), new TreeSet<>(Arrays.asList(METHODS)).toString());
        for (String face : METHODS) {
            String name = face.substring(face.indexOf(' ') + 1, face.indexOf('('));
            Check.due("a private method of the name " + name, hidden.contains(name) ? 1 : 0, 0);
        }
        Set<String> fields = new TreeSet<>();
        for (Field field : HotGround.class.getDeclaredFields()) {
            if (!Modifier.isPrivate(field.getModifiers())) {
                fields.add(field.getName());
            }
        }
        Check.same("fields", fields.toString(), "[BAD, FULL, NONE, STATE]");
        Constructor<?>[] makers = HotGround.class.getDeclaredConstructors();
        Check.due("constructors", makers.length, 1);
        Check.due("it asks for nothing", makers[0].getParameterCount(), 0);
        Check.due("final and public", HotGround.class.getModifiers(), Modifier.PUBLIC | Modifier.FINAL);
    }

    private static String told(Method method) {
        StringBuilder out = new StringBuilder();
        out.append(method.getReturnType().getName()).append(' ').append(method.getName()).append('(');
        Class<?>[] types = method.getParameterTypes();
        for (int i = 0; i < types.length; i++) {
            out.append(i == 0 ? "" : ",").append(types[i].getName());
        }
        return out.append(')').toString();
    }

    private static void classesInside() {
        Class<?>[] inside = HotGround.class.getDeclaredClasses();
        Check.due("some twelve classes", inside.length <= 11 ? 1 : 0, 1);
        for (Class<?> each : inside) {
            Check.due(each + " is static", Modifier.isStatic(each.getModifiers()) ? 1 : 0, 1);
            Check.due(each + " is not public", Modifier.isPublic(each.getModifiers()) ? 1 : 0, 0);
            Check.due(each + " has no class inside", each.getDeclaredClasses().length, 0);
            staticsAreFinal(each);
            for (Method method : each.getDeclaredMethods()) {
                Check.due(method + " takes seven at most", method.getParameterCount() <= 7 ? 1 : 0, 1);
            }
        }
        staticsAreFinal(HotGround.class);
    }

    private static void staticsAreFinal(Class<?> each) {
        int fields = 0;
        for (Field field : each.getDeclaredFields()) {
            if (Modifier.isStatic(field.getModifiers())) {
                Check.due(field + " is final", Modifier.isFinal(field.getModifiers()) ? 1 : 0, 1);
            } else {
                fields++;
            }
        }
        Check.due(each + " has some twenty fields", fields <= 20 ? 1 : 0, 1);
    }

    private static void words(String text) {
        String code = text.replaceAll("(?s)/\\*.*?\\*/", "").replaceAll("//[^\n]*", "");
        for (String word : FORBIDDEN) {
            String edge = Character.isLetter(word.charAt(0)) && Character.isLetter(word.charAt(word.length() - 1))
                    ? "\\b" : "";
            boolean found = Pattern.compile(edge + Pattern.quote(word) + edge).matcher(code).find();
            Check.due("the word " + word + " stands there", found ? 1 : 0, 0);
        }
        Set<String> asked = new TreeSet<>();
        Matcher library = Pattern.compile("\\b[A-Z]\\w*[a-z]\\w*\\.\\w+\\(").matcher(code);
        while (library.find()) {
            asked.add(library.group());
        }
        Check.same("asked of the library", asked.toString(), "[Math.max(, Math.min(]");
        boolean plain = text.chars().allMatch(c -> c == '\n' || c >= 32 && c < 127);
        Check.due("plain signs alone", plain ? 1 : 0, 1);
    }

    /** Ahead of the calls the interface says what they are about: each group of calls stands below its line. */
    private static void groups(String text) {
        String[][] groups = {
            {"// ---- wells, the plant", "well", "open", "clean", "flow", "about", "turbine", "on", "at", "point"},
            {"// ---- boxes, years", "fill", "set", "year", "box", "sum"},
            {"// ---- what comes back", "share", "put", "back", "cut"},
            {"// ---- the plan", "candidate", "promise", "plan", "lacks", "count", "trace"}};
        int before = 0;
        for (String[] group : groups) {
            for (int i = 0; i < group.length; i++) {
                int at = i == 0 ? text.indexOf(group[0]) : text.indexOf(" " + group[i] + "(", before);
                Check.due(group[i] + " stands in its place", at > before ? 1 : 0, 1);
                before = Math.max(before, at);
            }
        }
    }

    /** Rule 11: some sixty lines a method. A method of the class starts 4 from the edge, one inside another class 8. */
    private static void lengths(String text) {
        Matcher body = Pattern.compile("\n( {4}| {8})(?! |private static final class)[^\n]*\\) \\{\n(.*?)\n\\1\\}\n",
                Pattern.DOTALL).matcher(text);
        int found = 0;
        while (body.find()) {
            found++;
            long lines = body.group(2).lines().count();
            Check.due("lines of a method:" + body.group(2).lines().findFirst().orElse(""), lines <= 60 ? 1 : 0, 1);
        }
        Check.due("methods are seen", found >= METHODS.length ? 1 : 0, 1);
    }

    /** Objects and arrays are made where fields are: no call makes one. */
    private static void loops(String text) {
        Matcher made = Pattern.compile("\n([^\n]*)\\bnew \\w").matcher(text);
        int found = 0;
        while (made.find()) {
            found++;
            String before = made.group(1);
            boolean field = before.matches(" +final .* = ") || before.matches(" +(wells|plant|ground|kernel|offers) = ");
            Check.due("made in a call:" + before, field ? 0 : 1, 0);
        }
        Check.due("what is made is seen", found > 10 ? 1 : 0, 1);
    }
}
