import java.io.IOException;
import java.nio.file.DirectoryStream;
import java.nio.file.Files;
import java.nio.file.Path;
import java.util.Set;
import java.util.TreeSet;
import java.util.regex.Matcher;
import java.util.regex.Pattern;

/** Each promise that the document numbers has a test, and a test of its edges, named after it. */
public final class EveryPromiseTest {
    private static final Path DOCUMENT = Path.of("../shared/DOC.md");
    private static final Path TESTS = Path.of("src/test/java");

    public static void main(String[] args) throws IOException {
        Check check = new Check();
        Set<Integer> promises = numbers("(?m)^## Promise (\\d+):", Files.readString(DOCUMENT));
        check.due("promises of the document", promises.size(), 43);
        check.holds("each has a test", named(false).equals(promises));
        check.holds("each has a test of its edges", named(true).equals(promises));
        check.end();
    }

    /** The promises after which methods are named, in the tests of edges or in the others. */
    private static Set<Integer> named(boolean ofEdges) throws IOException {
        Set<Integer> found = new TreeSet<>();
        try (DirectoryStream<Path> files = Files.newDirectoryStream(TESTS, "*Test.java")) {
            for (Path file : files) {
                if (file.getFileName().toString().endsWith("EdgesTest.java") == ofEdges) {
                    found.addAll(numbers("private static void promises?(\\d+)", Files.readString(file)));
                    found.addAll(numbers("private static void promises\\d+And(\\d+)", Files.readString(file)));
                }
            }
        }
        return found;
    }

    private static Set<Integer> numbers(String pattern, String text) {
        Set<Integer> found = new TreeSet<>();
        Matcher matcher = Pattern.compile(pattern).matcher(text);
        while (matcher.find()) {
            found.add(Integer.parseInt(matcher.group(1)));
        }
        return found;
    }
}
