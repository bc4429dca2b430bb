import java.io.IOException;
import java.lang.reflect.Constructor;
import java.lang.reflect.Field;
import java.lang.reflect.Method;
import java.lang.reflect.Modifier;
import java.nio.charset.StandardCharsets;
import java.nio.file.Files;
import java.nio.file.Path;
import java.util.ArrayList;
import java.util.List;
import java.util.Map;
import java.util.Set;
import java.util.TreeMap;
import java.util.TreeSet;
import java.util.regex.Matcher;
import java.util.regex.Pattern;

/** The class keeps to the document's face and to what LANGUAGE.md can be held to by looking. */
public final class LanguageTest {
    private static final Path SOURCE = Path.of("src/main/java/MountainFile.java");
    private static final Path DOCUMENT = Path.of("../shared/DOC.md");
    private static final Pattern METHOD = Pattern.compile(
        "(?ms)^( {4}| {8})(?:public|private) [^;={}]*?(\\w+)\\([^;={}]*\\) \\{\n(.*?)^\\1\\}\n");
    private static final Check check = new Check();

    public static void main(String[] args) throws IOException {
        String source = Files.readString(SOURCE, StandardCharsets.ISO_8859_1);
        List<Class<?>> classes = new ArrayList<>(List.of(MountainFile.class));
        classes.addAll(List.of(MountainFile.class.getDeclaredClasses()));
        rule1Face();
        rule1Members(classes);
        rule2Nested(classes);
        rules5And11Fields(classes);
        rule11Methods(classes, source);
        rules8And11Depth(source);
        rules4And6Words(source);
        rule4Library(source);
        check.end();
    }

    /** Every public line of the document's face, and no other, is there. */
    private static void rule1Face() throws IOException {
        Set<String> due = new TreeSet<>();
        Matcher line = Pattern.compile("(?m)^    public (.*);$").matcher(Files.readString(DOCUMENT));
        while (line.find()) {
            due.add(line.group(1).replaceAll(" \\w+([,)])", "$1"));
        }
        Set<String> there = new TreeSet<>();
        for (Constructor<?> c : MountainFile.class.getDeclaredConstructors()) {
            there.add("MountainFile" + types(c.getParameterTypes()));
        }
        for (Method m : MountainFile.class.getDeclaredMethods()) {
            if (Modifier.isPublic(m.getModifiers())) {
                there.add(m.getReturnType().getName() + " " + m.getName() + types(m.getParameterTypes()));
            }
        }
        check.due("the face has the constructor and 42 calls", due.size(), 43);
        check.holds("the face is " + due + ", not " + there, due.equals(there));
        check.holds("public and final", Modifier.isPublic(MountainFile.class.getModifiers())
            && Modifier.isFinal(MountainFile.class.getModifiers()));
    }

    private static String types(Class<?>[] types) {
        List<String> names = new ArrayList<>();
        for (Class<?> type : types) {
            names.add(type.getName());
        }
        return "(" + String.join(", ", names) + ")";
    }

    private static void rule1Members(List<Class<?>> classes) {
        Set<String> publics = new TreeSet<>();
        for (Method m : MountainFile.class.getDeclaredMethods()) {
            if (Modifier.isPublic(m.getModifiers())) {
                publics.add(m.getName());
            }
        }
        for (Class<?> c : classes) {
            for (Method m : c.getDeclaredMethods()) {
                boolean isFace = c == MountainFile.class && Modifier.isPublic(m.getModifiers());
                check.holds(m + " is private", isFace || Modifier.isPrivate(m.getModifiers()));
                check.holds(m + " bears a name of its own", isFace || !publics.contains(m.getName()));
            }
            for (Field f : c.getDeclaredFields()) {
                check.holds(f + " is private", Modifier.isPrivate(f.getModifiers()));
            }
        }
    }

    private static void rule2Nested(List<Class<?>> classes) {
        check.holds("at most twelve classes", classes.size() <= 12);
        for (Class<?> c : classes.subList(1, classes.size())) {
            check.holds(c + " is static", Modifier.isStatic(c.getModifiers()));
            check.holds(c + " holds no class", c.getDeclaredClasses().length == 0);
        }
    }

    private static void rules5And11Fields(List<Class<?>> classes) {
        for (Class<?> c : classes) {
            int fields = 0;
            for (Field f : c.getDeclaredFields()) {
                boolean isStatic = Modifier.isStatic(f.getModifiers());
                check.holds(f + " is final", !isStatic || Modifier.isFinal(f.getModifiers()));
                check.holds(f + " is a plain constant", !isStatic || f.getType() == int.class);
                fields += isStatic ? 0 : 1;
            }
            check.holds(c + " has at most twenty fields", fields <= 20);
        }
    }

    private static void rule11Methods(List<Class<?>> classes, String source) {
        for (Class<?> c : classes) {
            for (Method m : c.getDeclaredMethods()) {
                check.holds(m + " takes at most seven", m.getParameterCount() <= 7);
            }
        }
        Matcher method = METHOD.matcher(source);
        int methods = 0;
        while (method.find()) {
            methods++;
            long lines = method.group().lines().count();
            check.holds("at most sixty lines: " + method.group().lines().findFirst().orElse(""), lines <= 60);
        }
        check.holds("methods were found: " + methods, methods >= 43);
    }

    /** No two methods bear one name, so a name in a body tells what is called. */
    private static void rules8And11Depth(String source) {
        Map<String, String> bodies = new TreeMap<>();
        Matcher method = METHOD.matcher(withoutCommentsAndTexts(source));
        while (method.find()) {
            check.holds(method.group(2) + " is the only one", bodies.put(method.group(2), method.group(3)) == null);
        }
        int deepest = 0;
        for (String name : bodies.keySet()) {
            int depth = depth(name, bodies, 0);
            deepest = Math.max(deepest, depth);
            check.holds(name + " goes " + depth + " deep", depth <= 8);
        }
        check.holds("calls were found, " + deepest + " deep", deepest >= 4);
    }

    private static int depth(String name, Map<String, String> bodies, int above) {
        int deepest = 0;
        Matcher call = Pattern.compile("(\\w+)\\(").matcher(bodies.get(name));
        // A recursion would go on for ever: 20 is beyond all that may be.
        while (above < 20 && call.find()) {
            boolean isOwn = bodies.containsKey(call.group(1));
            deepest = Math.max(deepest, isOwn ? depth(call.group(1), bodies, above + 1) : 0);
        }
        return 1 + deepest;
    }

    private static void rules4And6Words(String source) {
        check.holds("signs 1 to 127", source.chars().allMatch(sign -> sign >= 1 && sign <= 127));
        String code = withoutCommentsAndTexts(source);
        for (String word : List.of("throw", "throws", "try", "catch", "finally", "synchronized", "assert", "import",
                "package", "protected", "native", "volatile", "transient", "yield", "var", "record")) {
            check.holds("no " + word, !Pattern.compile("\\b" + word + "\\b").matcher(code).find());
        }
        for (String sign : List.of("->", "::", "Exact(", "+=\"", "System.out", "System.nano", "System.current")) {
            check.holds("no " + sign, !code.contains(sign));
        }
    }

    /** What is called by the name of a library's class is one of these alone. */
    private static void rule4Library(String source) {
        Set<String> allowed = Set.of("System.arraycopy", "Math.max", "Math.min", "Integer.bitCount");
        Matcher call = Pattern.compile("\\b([A-Z]\\w*\\.[a-z]\\w*)\\(").matcher(withoutCommentsAndTexts(source));
        Set<String> calls = new TreeSet<>();
        while (call.find()) {
            calls.add(call.group(1));
        }
        check.holds("the library's calls: " + calls, allowed.containsAll(calls));
    }

    private static String withoutCommentsAndTexts(String source) {
        return source
            .replaceAll("(?s)/\\*.*?\\*/", " ")
            .replaceAll("//[^\n]*", " ")
            .replaceAll("\"[^\"\n]*\"", "\"\"");
    }
}
