import java.io.IOException;
import java.io.UncheckedIOException;
import java.lang.reflect.Method;
import java.nio.file.Files;
import java.nio.file.Path;
import java.util.List;
import java.util.Set;
import java.util.TreeSet;
import java.util.regex.Matcher;
import java.util.regex.Pattern;
import javax.tools.ToolProvider;

/** What README.md says of using the class and of running its tests is so. */
final class ReadmeTest {
    private ReadmeTest() { }

    /** The page stands at the project's root, as do the paths that it names. */
    static void all(String page) {
        Check.test("the README: its example prints what it says", () -> example(read(page)));
        Check.test("the README: each call stands in its table once", () -> table(read(page)));
        Check.test("the README: what it names is there", () -> names(read(page)));
    }

    private static String read(String page) {
        try {
            return Files.readString(Path.of(page));
        } catch (IOException e) {
            throw new UncheckedIOException(e);
        }
    }

    /** What stands in the first block of a sort. */
    private static String block(String text, String sort) {
        Matcher m = Pattern.compile("(?ms)^```" + sort + "\n(.*?)^```$").matcher(text);
        Check.due("a block of " + sort, m.find() ? 1 : 0, 1);
        return m.group(1);
    }

    private static void example(String text) {
        try {
            Path dir = Files.createTempDirectory("readme");
            Path source = dir.resolve("Example.java");
            Files.writeString(source, block(text, "java"));
            String path = System.getProperty("java.class.path");
            int built = ToolProvider.getSystemJavaCompiler().run(null, null, null,
                "-Xlint:all", "-Werror", "-cp", path, "-d", dir.toString(), source.toString());
            Check.due("the example compiles", built, 0);
            String printed = run(dir, path + System.getProperty("path.separator") + dir);
            Check.due("the example prints:\n" + printed, printed.equals(block(text, "text")) ? 1 : 0, 1);
            for (String name : List.of("Example.java", "Example.class", "printed.txt")) {
                Files.deleteIfExists(dir.resolve(name));
            }
            Files.deleteIfExists(dir);
        } catch (IOException e) {
            throw new UncheckedIOException(e);
        } catch (InterruptedException e) {
            throw new IllegalStateException(e);
        }
    }

    private static String run(Path dir, String classes) throws IOException, InterruptedException {
        Path printed = dir.resolve("printed.txt");
        String java = Path.of(System.getProperty("java.home"), "bin", "java").toString();
        int end = new ProcessBuilder(java, "-cp", classes, "Example")
            .redirectErrorStream(true).redirectOutput(printed.toFile()).start().waitFor();
        Check.due("the example ends", end, 0);
        return Files.readString(printed).replace("\r\n", "\n");
    }

    private static void table(String text) {
        Set<String> named = new TreeSet<>();
        for (String line : text.lines().filter(l -> l.startsWith("| ") && l.contains("`")).toList()) {
            Matcher m = Pattern.compile("`(\\w+)`").matcher(line.substring(line.lastIndexOf("| ", line.length() - 3)));
            while (m.find()) {
                Check.due(m.group(1) + " stands once", named.add(m.group(1)) ? 1 : 0, 1);
            }
        }
        Set<String> calls = new TreeSet<>();
        for (Method m : TideWheels.class.getMethods()) {
            if (m.getDeclaringClass() == TideWheels.class) {
                calls.add(m.getName());
            }
        }
        Check.due("the table's calls are " + named, named.equals(calls) ? 1 : 0, 1);
    }

    private static void names(String text) {
        for (String path : List.of("src/main/java/TideWheels.java", "../shared/DOC.md", "../shared/LANGUAGE.md",
                "../shared/tests", ".ci/run", "src/test/java")) {
            Check.due(path + " is named", text.contains(path) ? 1 : 0, 1);
            Check.due(path + " is there", Files.exists(Path.of(path)) ? 1 : 0, 1);
        }
        Check.due(".ci/run can be run", Files.isExecutable(Path.of(".ci/run")) ? 1 : 0, 1);
        Matcher m = Pattern.compile("`(\\w+(?:Tests?|Edges?)|Oracle)`").matcher(text);
        Set<String> named = new TreeSet<>();
        while (m.find()) {
            named.add(m.group(1));
            Path file = Path.of("src/test/java", m.group(1) + ".java");
            Check.due(file + " is there", Files.exists(file) ? 1 : 0, 1);
        }
        Check.due("tests are named: " + named, named.size() > 10 ? 1 : 0, 1);
    }
}
