import java.io.ByteArrayOutputStream;
import java.io.File;
import java.io.IOException;
import java.io.PrintStream;
import java.net.URL;
import java.net.URLClassLoader;
import java.nio.charset.StandardCharsets;
import java.nio.file.Files;
import java.nio.file.Path;
import javax.tools.ToolProvider;

/** What README.md says: how the class is used and how its tests are run. Runs where .ci/run does. */
public final class ReadmeTest {
    private static final Path BUILT = Path.of("build", "readme");

    public static void main(String[] args) throws Exception {
        String page = Files.readString(Path.of("README.md"));
        example(page);
        tests(page);
        commands(page, Files.readString(Path.of(".ci", "run")));
        Check.ending("ReadmeTest");
    }

    /** The lines of the first block of a kind behind some words. */
    private static String block(String page, String kind, String behind) {
        String open = "```" + kind + "\n";
        int start = page.indexOf(open, Math.max(0, page.indexOf(behind)));
        int end = start < 0 ? -1 : page.indexOf("```", start + open.length());
        Check.holds("README.md has " + kind + " behind: " + behind, end >= 0);
        return end < 0 ? "" : page.substring(start + open.length(), end);
    }

    private static void example(String page) throws Exception {
        Files.createDirectories(BUILT);
        Path program = BUILT.resolve("Fibonacci.java");
        Files.writeString(program, block(page, "java", "## How to use it"));
        int compiled = ToolProvider.getSystemJavaCompiler().run(null, null, null, "--release", "17", "-d", BUILT.toString(),
            Path.of("src", "main", "java", "HiddenRelations.java").toString(), program.toString());
        Check.due("README.md's program compiles", compiled, 0);
        if (compiled != 0) {
            return;
        }
        String printed = printed("Fibonacci");
        String want = block(page, "text", "It prints:");
        if (!printed.equals(want)) {
            System.out.println("README.md's program prints:\n" + printed);
        }
        Check.holds("README.md's program prints what stands there", printed.equals(want));
    }

    private static String printed(String program) throws Exception {
        PrintStream out = System.out;
        ByteArrayOutputStream bytes = new ByteArrayOutputStream();
        URL[] from = {BUILT.toUri().toURL()};
        try (URLClassLoader loader = new URLClassLoader(from, ClassLoader.getPlatformClassLoader())) {
            System.setOut(new PrintStream(bytes, true, StandardCharsets.UTF_8));
            loader.loadClass(program).getMethod("main", String[].class).invoke(null, (Object) new String[0]);
        } finally {
            System.setOut(out);
        }
        return bytes.toString(StandardCharsets.UTF_8).replace("\r\n", "\n");
    }

    private static void tests(String page) throws IOException {
        File[] files = new File("src/test/java").listFiles((folder, name) -> name.endsWith("Test.java"));
        Check.holds("there are tests", files != null && files.length > 0);
        int rows = 0;
        for (File file : files) {
            String name = file.getName().replace(".java", "");
            Check.holds("README.md names " + name, page.contains("\n| " + name + " |"));
        }
        for (String line : page.split("\n")) {
            rows += line.startsWith("| ") && line.contains("Test |") ? 1 : 0;
        }
        Check.due("tests that README.md names", rows, files.length);
    }

    /** The command of the page is .ci/run itself, and single tests run by the paths that it writes. */
    private static void commands(String page, String script) {
        String first = block(page, "sh", "## How to run its tests");
        Check.holds("the way to run the tests is .ci/run", first.equals(".ci/run\n"));
        Check.holds(".ci/run can be run", Files.isExecutable(Path.of(".ci", "run")));
        Check.holds(".ci/run writes under build", script.contains("\nout=build\n"));
        Check.holds("it runs the project's tests", script.contains("src/test/java/*Test.java"));
        Check.holds("and by the same paths", script.contains("java -cp \"$out/main:$out/test\""));
        Check.holds("it finds the shared tests", script.contains("shared=../shared/tests"));
        for (String line : page.split("\n")) {
            if (line.startsWith("java -cp build")) {
                Check.holds("a test by the same paths: " + line, line.startsWith("java -cp build/main:build/test "));
                String name = line.split(" ")[3];
                Check.holds("there is " + name, Files.exists(Path.of("src", "test", "java", name + ".java")));
            }
        }
    }
}
