import java.io.ByteArrayOutputStream;
import java.io.IOException;
import java.io.PrintStream;
import java.lang.reflect.Method;
import java.lang.reflect.Modifier;
import java.nio.charset.StandardCharsets;
import java.nio.file.Files;
import java.nio.file.Path;
import java.util.Set;
import java.util.TreeSet;
import java.util.stream.Stream;

/** What README.md says: its example, what the example prints, the calls and the tests that it names. */
public final class ReadmeTest {
    private static final Path README = Path.of("README.md");
    private static final Path TESTS = Path.of("src/test/java");

    public static void main(String[] args) throws IOException {
        String readme = Files.readString(README);
        Expect.same("the example", block(readme, "```java"), Files.readString(TESTS.resolve("Demo.java")));
        Expect.same("what the example prints", block(readme, "```text"), printedByDemo());
        everyCallIsNamed(readme);
        everyTestIsNamed(readme);
        Expect.end();
    }

    private static String block(String readme, String fence) {
        int begin = readme.indexOf(fence + "\n");
        int end = readme.indexOf("\n```\n", begin + 1);
        return begin < 0 || end < 0 ? "no block " + fence : readme.substring(begin + fence.length() + 1, end + 1);
    }

    private static String printedByDemo() {
        PrintStream console = System.out;
        ByteArrayOutputStream printed = new ByteArrayOutputStream();
        System.setOut(new PrintStream(printed, true, StandardCharsets.UTF_8));
        Demo.main(new String[0]);
        System.setOut(console);
        return printed.toString(StandardCharsets.UTF_8).replace(System.lineSeparator(), "\n");
    }

    private static void everyCallIsNamed(String readme) {
        Set<String> calls = new TreeSet<>();
        for (Method method : SeesawMarket.class.getDeclaredMethods()) {
            if (Modifier.isPublic(method.getModifiers())) {
                calls.add(method.getName());
            }
        }
        for (String call : calls) {
            Expect.same("README.md names " + call, readme.contains("`" + call + "`"), true);
        }
    }

    private static void everyTestIsNamed(String readme) throws IOException {
        try (Stream<Path> files = Files.list(TESTS)) {
            for (Path file : files.sorted().toList()) {
                String name = file.getFileName().toString().replace(".java", "");
                Expect.same("README.md names " + name, readme.contains("`" + name + "`"), true);
            }
        }
    }
}
