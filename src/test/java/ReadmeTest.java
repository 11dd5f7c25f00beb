import java.io.ByteArrayOutputStream;
import java.io.File;
import java.io.IOException;
import java.io.PrintStream;
import java.io.StringWriter;
import java.lang.reflect.Method;
import java.lang.reflect.Modifier;
import java.net.URL;
import java.net.URLClassLoader;
import java.nio.charset.StandardCharsets;
import java.nio.file.Files;
import java.nio.file.Path;
import java.util.List;
import java.util.stream.Collectors;
import java.util.stream.Stream;
import javax.tools.JavaCompiler;
import javax.tools.ToolProvider;

/** README.md: its example compiles and answers as it says; it names every call, every test, and how to run them. */
public final class ReadmeTest {
    private static final Path PROJECT = Path.of("");

    public static void main(String[] args) throws Exception {
        String readme = Files.readString(PROJECT.resolve("README.md"));
        example(readme);
        names(readme);
        howToRun(readme);
        Due.end("ReadmeTest");
    }

    private static void example(String readme) throws Exception {
        int java = readme.indexOf("```java\n");
        Due.is("README.md has an example", java >= 0, true);
        if (java < 0) {
            return;
        }
        String wanted = blockFrom(readme, readme.indexOf("```text\n", java));
        List<String> want = wanted.lines().collect(Collectors.toList());
        List<String> got = answersOf(blockFrom(readme, java)).lines().collect(Collectors.toList());
        Due.is("lines that the example prints", got.size(), want.size());
        for (int i = 0; i < got.size() && i < want.size(); i++) {
            Due.is("the example's line " + (i + 1), got.get(i), want.get(i));
        }
        Due.is("the example prints something", got.isEmpty(), false);
    }

    /** What stands between the line at which a fence opens and the next fence. */
    private static String blockFrom(String readme, int fence) {
        int start = fence < 0 ? -1 : readme.indexOf('\n', fence) + 1;
        int end = start < 0 ? -1 : readme.indexOf("```", start);
        return end < 0 ? "" : readme.substring(start, end);
    }

    private static String answersOf(String source) throws Exception {
        Path room = Files.createTempDirectory("readme");
        try {
            Path file = room.resolve("Example.java");
            Files.writeString(file, source);
            return compiles(room, file) ? run(room) : "";
        } finally {
            remove(room);
        }
    }

    private static boolean compiles(Path room, Path file) {
        JavaCompiler javac = ToolProvider.getSystemJavaCompiler();
        StringWriter said = new StringWriter();
        List<String> options = List.of("-Xlint:all", "-Werror", "-d", room.toString(),
            "-cp", System.getProperty("java.class.path"));
        boolean right;
        try (var files = javac.getStandardFileManager(null, null, StandardCharsets.UTF_8)) {
            right = javac.getTask(said, files, null, options, null, files.getJavaFileObjects(file)).call();
        } catch (IOException e) {
            right = false;
        }
        Due.is("compiling the example, which says: " + said, right, true);
        return right;
    }

    private static String run(Path room) throws Exception {
        PrintStream out = System.out;
        ByteArrayOutputStream printed = new ByteArrayOutputStream();
        try (URLClassLoader classes = new URLClassLoader(new URL[] {room.toUri().toURL()})) {
            Method start = classes.loadClass("Example").getMethod("main", String[].class);
            System.setOut(new PrintStream(printed, true, StandardCharsets.UTF_8));
            start.invoke(null, (Object) new String[0]);
        } finally {
            System.setOut(out);
        }
        return printed.toString(StandardCharsets.UTF_8);
    }

    private static void remove(Path room) throws IOException {
        try (Stream<Path> files = Files.list(room)) {
            files.map(Path::toFile).forEach(File::delete);
        }
        Files.delete(room);
    }

    private static void names(String readme) throws IOException {
        for (Method call : CalendarOrders.class.getDeclaredMethods()) {
            if (Modifier.isPublic(call.getModifiers())) {
                String name = "`" + call.getName() + "`";
                Due.is("README.md names the call " + name, readme.contains(name), true);
            }
        }
        try (Stream<Path> files = Files.list(PROJECT.resolve("src/test/java"))) {
            List<String> tests = files.map(file -> file.getFileName().toString())
                .filter(name -> name.endsWith("Test.java"))
                .map(name -> "`" + name.replace(".java", "") + "`")
                .collect(Collectors.toList());
            for (String name : tests) {
                Due.is("README.md names the test " + name, readme.contains(name), true);
            }
        }
    }

    private static void howToRun(String readme) {
        Due.is("README.md says how to run the tests", readme.contains("```sh\n.ci/run\n```"), true);
        Due.is(".ci/run can be run", Files.isExecutable(PROJECT.resolve(".ci/run")), true);
    }
}
