import java.io.ByteArrayOutputStream;
import java.io.IOException;
import java.io.PrintStream;
import java.io.UncheckedIOException;
import java.net.URL;
import java.net.URLClassLoader;
import java.nio.charset.StandardCharsets;
import java.nio.file.Files;
import java.nio.file.Path;
import java.util.ArrayList;
import java.util.List;
import java.util.regex.Matcher;
import java.util.regex.Pattern;
import java.util.spi.ToolProvider;
import java.util.stream.Stream;

/** README.md and SENTENCES.md say what is so. Takes the checkout's path as its argument. */
public final class DocumentsTest {
    private static final Pattern TEST_NAME = Pattern.compile("`([A-Za-z]+)\\.([A-Za-z]+)`");

    public static void main(String[] args) throws Exception {
        Path project = Path.of(args.length > 0 ? args[0] : ".");
        theExampleWorksAsItIsWritten(project);
        theReadmeListsTheTests(project);
        theTestsOfTheSentencesStand(project);
        Checks.end();
    }

    /** Does what README.md says to do with the example. */
    private static void theExampleWorksAsItIsWritten(Path project) throws Exception {
        String readme = Files.readString(project.resolve("README.md"));
        Path place = Files.createTempDirectory("example");
        try {
            Path example = place.resolve("Example.java");
            Files.writeString(example, block(readme, "java"));
            Path main = project.resolve("src/main/java/AbbreviationBook.java");
            Path out = place.resolve("out");
            int code = ToolProvider.findFirst("javac").orElseThrow().run(System.out, System.err,
                    "-d", out.toString(), main.toString(), example.toString());
            Checks.due("javac of the example", 0, code);
            if (code == 0) {
                Checks.due("what the example prints", block(readme, "text"), printedBy(out));
            }
        } finally {
            removeAll(place);
        }
    }

    private static String printedBy(Path classes) throws Exception {
        PrintStream before = System.out;
        ByteArrayOutputStream printed = new ByteArrayOutputStream();
        // Without a parent that knows the class path, so that the classes of the example are used.
        try (URLClassLoader loader = new URLClassLoader(new URL[] {classes.toUri().toURL()},
                ClassLoader.getPlatformClassLoader())) {
            System.setOut(new PrintStream(printed, true, StandardCharsets.UTF_8));
            loader.loadClass("Example").getMethod("main", String[].class).invoke(null, (Object) new String[0]);
        } finally {
            System.setOut(before);
        }
        return printed.toString(StandardCharsets.UTF_8).replace(System.lineSeparator(), "\n");
    }

    /** The one block of this kind. */
    private static String block(String page, String kind) {
        String opening = "\n```" + kind + "\n";
        int start = page.indexOf(opening);
        int end = page.indexOf("\n```\n", start + opening.length());
        Checks.due("one block of " + kind, true, start >= 0 && end > start && page.lastIndexOf(opening) == start);
        return start >= 0 && end > start ? page.substring(start + opening.length(), end + 1) : "";
    }

    private static void removeAll(Path place) {
        try (Stream<Path> files = Files.walk(place)) {
            List<Path> inside = new ArrayList<>(files.toList());
            inside.sort((a, b) -> b.getNameCount() - a.getNameCount());
            for (Path file : inside) {
                Files.delete(file);
            }
        } catch (IOException e) {
            throw new UncheckedIOException(e);
        }
    }

    private static void theReadmeListsTheTests(Path project) throws Exception {
        String readme = Files.readString(project.resolve("README.md"));
        try (Stream<Path> files = Files.list(project.resolve("src/test/java"))) {
            for (Path file : files.toList()) {
                String name = file.getFileName().toString().replace(".java", "");
                Checks.due("README.md names " + name, true, readme.contains("`" + name + "`"));
            }
        }
    }

    /** Each test that SENTENCES.md names is a method of a test, and its main calls it. */
    private static void theTestsOfTheSentencesStand(Path project) throws Exception {
        String sentences = Files.readString(project.resolve("src/test/SENTENCES.md"));
        Matcher names = TEST_NAME.matcher(sentences);
        while (names.find()) {
            Path file = project.resolve("src/test/java/" + names.group(1) + "Test.java");
            String code = Files.exists(file) ? Files.readString(file) : "";
            String method = names.group(2);
            Checks.due("the test " + names.group(), true, code.contains("        " + method + "(")
                    && code.contains("    private static void " + method + "("));
        }
    }
}
