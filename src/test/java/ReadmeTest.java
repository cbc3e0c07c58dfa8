import java.io.IOException;
import java.lang.reflect.Method;
import java.lang.reflect.Modifier;
import java.net.URL;
import java.net.URLClassLoader;
import java.nio.file.Files;
import java.nio.file.Path;
import java.util.ArrayList;
import java.util.List;
import java.util.Set;
import java.util.stream.Stream;
import javax.tools.ToolProvider;

/** README.md: its example is compiled and run, and answers as it says. It takes the path of the page. */
public final class ReadmeTest {
    private static final Check CHECK = new Check();
    private static final int MOST_CALLS = 512;
    // What the page is to show, each at least once.
    private static final Set<String> SHOWN = Set.of("begin", "read", "scan", "sum", "write", "remove", "add", "commit",
            "abort", "retry", "configure", "appendCharacter", "runScript", "faultPosition", "rewind");

    public static void main(String[] args) throws Exception {
        Path path = Path.of(args.length > 0 ? args[0] : "README.md");
        String page = Files.readString(path);
        ReadmeExample example = new ReadmeExample(page);
        CHECK.same("calls whose answer the page does not say", example.unanswered(), List.of());
        CHECK.same("the example keeps to the calls of an object", example.mostCalls() <= MOST_CALLS, true);
        for (String method : SHOWN) {
            CHECK.same("the example calls " + method, example.calls(method), true);
        }
        for (String answer : new String[] {"ABSENT", "BLOCKED", "ABORTED"}) {
            CHECK.same("the example has the answer " + answer, example.says("answers " + answer), true);
        }
        for (String[] row : outcomesOf(example)) {
            CHECK.same("README.md, line " + row[0], row[1], row[2]);
        }
        words(page);
        constants(page);
        testsNamed(page);
        CHECK.finish("ReadmeTest");
    }

    private static List<String[]> outcomesOf(ReadmeExample example) throws Exception {
        Path folder = Files.createTempDirectory("readme");
        try {
            Path source = folder.resolve(ReadmeExample.NAME + ".java");
            Files.writeString(source, example.program());
            int code = ToolProvider.getSystemJavaCompiler().run(null, null, null, "-cp",
                    System.getProperty("java.class.path"), "-d", folder.toString(), source.toString());
            CHECK.same("the exit code of javac for the example", code, 0);
            return code == 0 ? run(folder) : List.of();
        } finally {
            empty(folder);
        }
    }

    private static List<String[]> run(Path folder) throws Exception {
        List<String[]> rows = new ArrayList<>();
        try (URLClassLoader loader = new URLClassLoader(new URL[] {folder.toUri().toURL()})) {
            loader.loadClass(ReadmeExample.NAME).getMethod("run", List.class).invoke(null, rows);
        }
        CHECK.same("the example has answers", rows.size() > 50, true);
        return rows;
    }

    private static void empty(Path folder) throws IOException {
        try (Stream<Path> files = Files.list(folder)) {
            for (Path file : files.toList()) {
                Files.delete(file);
            }
        }
        Files.delete(folder);
    }

    private static void words(String page) {
        for (Method method : OptimisticStore.class.getDeclaredMethods()) {
            if (Modifier.isPublic(method.getModifiers())) {
                CHECK.same("README.md names " + method.getName(), page.contains("`" + method.getName() + "`"), true);
            }
        }
        CHECK.same("README.md says for how many calls", page.contains("at most " + MOST_CALLS + " calls"), true);
        CHECK.same("README.md says how all tests are run", page.contains("\n    .ci/run\n"), true);
    }

    private static void constants(String page) {
        CHECK.same("ABSENT", page.contains("| `ABSENT` | " + OptimisticStore.ABSENT + " |"), true);
        CHECK.same("BLOCKED", page.contains("| `BLOCKED` | " + OptimisticStore.BLOCKED + " |"), true);
        CHECK.same("ABORTED", page.contains("| `ABORTED` | " + OptimisticStore.ABORTED + " |"), true);
    }

    private static void testsNamed(String page) throws IOException {
        try (Stream<Path> files = Files.list(Path.of("src/test/java"))) {
            for (Path file : files.filter(each -> each.toString().endsWith("Test.java")).toList()) {
                String name = file.getFileName().toString().replace(".java", "");
                CHECK.same("README.md names the test " + name, page.contains("| `" + name + "` |"), true);
            }
        }
    }
}
