import java.io.IOException;
import java.net.URL;
import java.net.URLClassLoader;
import java.nio.charset.StandardCharsets;
import java.nio.file.Files;
import java.nio.file.Path;
import java.util.ArrayList;
import java.util.List;
import java.util.regex.Matcher;
import java.util.regex.Pattern;
import java.util.stream.Stream;
import javax.tools.ToolProvider;

/** README.md names each call, what it throws, and each test; and its example answers what it shows. */
public final class ReadmeTests {
    private static final Path README = Path.of("README.md");
    private static final Path DOCUMENT = Path.of("../shared/DOC.md");
    private static final Path TESTS = Path.of("src/test/java");

    private ReadmeTests() { }

    public static void main(String[] args) throws Exception {
        String readme = Files.readString(README, StandardCharsets.UTF_8);
        rows(readme, Files.readString(DOCUMENT, StandardCharsets.UTF_8));
        tests(readme);
        example(readme);
        Check.end("ReadmeTests");
    }

    /** Each method of the document's face has a row, with its exceptions in their order. */
    private static void rows(String readme, String document) {
        Check.holds("README.md tells of new objects", readme.contains("`new QuorumLog()`"));
        Matcher method = Pattern.compile("public \\w+ (\\w+)\\((.*?)\\)(?: throws (.*?))?;")
                .matcher(document.substring(0, document.indexOf("## Description")));
        int methods = 0;
        while (method.find()) {
            methods++;
            String call = method.group(1) + "(" + method.group(2).replaceAll("\\w+ (\\w+)", "$1") + ")";
            String thrown = method.group(3) == null ? "" : method.group(3);
            Check.holds("README.md has what " + call + " throws: " + thrown,
                    thrown.equals(thrownIn(readme, call)));
        }
        Check.same("the methods of the document's face", methods, 27);
    }

    private static String thrownIn(String readme, String call) {
        Matcher row = Pattern.compile("(?m)^\\| `" + Pattern.quote(call) + "` \\| .+ \\| (.+) \\|$").matcher(readme);
        if (!row.find()) {
            return "no row";
        }
        List<String> names = new ArrayList<>();
        Matcher name = Pattern.compile("`(\\w+Exception)`").matcher(row.group(1));
        while (name.find()) {
            names.add(name.group(1));
        }
        boolean isTold = names.isEmpty() == row.group(1).equals("nothing");
        return isTold && !row.find() ? String.join(", ", names) : "a row that is not clear";
    }

    private static void tests(String readme) throws IOException {
        Check.holds("README.md tells how the tests are run", readme.contains("\n    .ci/run\n"));
        try (Stream<Path> files = Files.list(TESTS)) {
            files.map(file -> file.getFileName().toString().replace(".java", ""))
                    .forEach(name -> Check.holds("README.md names " + name, readme.contains("`" + name + "`")));
        }
    }

    private static void example(String readme) throws Exception {
        Path folder = Files.createTempDirectory("readme");
        try {
            Path file = folder.resolve("Shown.java");
            Files.writeString(file, shown(readme), StandardCharsets.UTF_8);
            int fault = ToolProvider.getSystemJavaCompiler().run(null, null, null, "-d", folder.toString(),
                    "-cp", System.getProperty("java.class.path"), file.toString());
            Check.same("the example compiles", fault, 0);
            try (URLClassLoader loader = new URLClassLoader(new URL[] {folder.toUri().toURL()})) {
                ((Runnable) loader.loadClass("Shown").getDeclaredConstructor().newInstance()).run();
            }
        } finally {
            try (Stream<Path> made = Files.list(folder)) {
                made.forEach(file -> file.toFile().delete());
            }
            Files.delete(folder);
        }
    }

    /** The example as a class that compares the answer of each call with the one behind it. */
    private static String shown(String readme) {
        int from = readme.indexOf("```java\n") + 8;
        String code = readme.substring(from, readme.indexOf("```", from));
        Matcher call = Pattern.compile("(?m)^(x\\..*);\\s+// (\\w+).*$").matcher(code);
        Check.same("the answers that are shown", call.results().count(), 16);
        return "public class Shown implements Runnable { public void run() {\n"
                + call.replaceAll("ReadmeTests.answers(\"$1\", \"$2\", () -> $1);") + "} }\n";
    }

    /** A call of the example, which is loaded apart from this class. */
    public interface Call {
        Object make();
    }

    public static void answers(String call, String due, Call made) {
        String got;
        try {
            got = String.valueOf(made.make());
        } catch (RuntimeException e) {
            got = e.getClass().getSimpleName();
        }
        Check.holds(call + " answers " + got + " and README.md shows " + due + ", which are the same:",
                got.equals(due));
    }
}
