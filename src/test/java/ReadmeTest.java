import java.io.IOException;
import java.lang.reflect.Method;
import java.lang.reflect.Modifier;
import java.nio.file.DirectoryStream;
import java.nio.file.Files;
import java.nio.file.Path;
import java.util.ArrayList;
import java.util.List;
import java.util.regex.Matcher;
import java.util.regex.Pattern;

/** README.md tells of all calls and tests, and what its examples answer is so. */
public final class ReadmeTest {
    private static final Path README = Path.of("README.md");
    private static final Path DOCUMENT = Path.of("../shared/DOC.md");
    private static final Path TESTS = Path.of("src/test/java");
    private static final Check check = new Check();

    public static void main(String[] args) throws IOException, ReflectiveOperationException {
        String readme = Files.readString(README);
        callsAreNamedAsInTheDocument(readme);
        findingsAreThoseOfTheDocument(readme);
        testsAreNamed(readme);
        exampleAnswersSo(readme);
        textTellsSo(readme);
        check.end();
    }

    private static void callsAreNamedAsInTheDocument(String readme) throws IOException {
        Matcher line = Pattern.compile("(?m)^    public (?:int|long) (.*);$").matcher(Files.readString(DOCUMENT));
        int calls = 0;
        while (line.find()) {
            String call = line.group(1).replaceAll("(?:int|long) ", "");
            check.holds("README.md names " + call, readme.contains("`" + call + "`"));
            calls++;
        }
        check.due("calls of the document", calls, 42);
    }

    private static void findingsAreThoseOfTheDocument(String readme) throws IOException {
        Matcher finding = Pattern.compile("(-100000000[1-7]) ([A-Z]+)").matcher(Files.readString(DOCUMENT));
        int findings = 0;
        while (finding.find()) {
            String row = "| " + finding.group(1) + " | " + finding.group(2) + ": [^|]* | " + findings + " |";
            check.holds(row, Pattern.compile(row.replace("|", "\\|").replace("[^\\|]", "[^|]")).matcher(readme).find());
            findings++;
        }
        check.due("findings of the document", findings, 7);
    }

    private static void testsAreNamed(String readme) throws IOException {
        try (DirectoryStream<Path> files = Files.newDirectoryStream(TESTS, "*Test.java")) {
            for (Path file : files) {
                String name = file.getFileName().toString().replace(".java", "");
                check.holds("README.md has a row for " + name, Pattern.compile("(?m)^\\|.*\\b" + name + "\\b.*\\|").matcher(readme).find());
            }
        }
    }

    private static void exampleAnswersSo(String readme) throws ReflectiveOperationException {
        MountainFile land = new MountainFile();
        Matcher line = Pattern.compile("(?m)^land\\.(\\w+)\\((.*)\\); +// (-?\\d+): ").matcher(readme);
        int lines = 0;
        while (line.find()) {
            String call = line.group(1) + "(" + line.group(2) + ")";
            check.due(call, answer(land, line.group(1), numbers(line.group(2))), Long.parseLong(line.group(3)));
            lines++;
        }
        check.due("each line of the example tells its answer", lines, readme.split("\nland\\.", -1).length - 1);
        check.holds("there is an example", lines > 0);
    }

    private static void textTellsSo(String readme) {
        Matcher text = Pattern.compile("This one has (\\d+):\n\n```text\n(.*)\n```").matcher(readme);
        check.holds("there is a text", text.find());
        check.due("items", Check.landOf(new MountainFile(), text.group(2)), Long.parseLong(text.group(1)));
    }

    private static Object[] numbers(String arguments) {
        List<Object> numbers = new ArrayList<>();
        for (String argument : arguments.isEmpty() ? new String[0] : arguments.split(", ")) {
            numbers.add(Integer.parseInt(argument));
        }
        return numbers.toArray();
    }

    private static long answer(MountainFile land, String name, Object[] arguments) throws ReflectiveOperationException {
        for (Method m : MountainFile.class.getDeclaredMethods()) {
            if (Modifier.isPublic(m.getModifiers()) && m.getName().equals(name)) {
                return ((Number) m.invoke(land, arguments)).longValue();
            }
        }
        throw new NoSuchMethodException(name);
    }
}
