import java.io.IOException;
import java.nio.file.Files;
import java.nio.file.Path;
import java.util.List;
import java.util.Set;
import java.util.TreeSet;
import java.util.regex.Matcher;
import java.util.regex.Pattern;

/** The rules of LANGUAGE.md that can be seen from the words of the source. It takes the path of the source. */
public final class LanguageTest {
    private static final Check CHECK = new Check();
    private static final Set<String> EXCEPTIONS = Set.of("IllegalStateException", "IllegalArgumentException",
            "IndexOutOfBoundsException", "ArithmeticException", "UnsupportedOperationException",
            "NoSuchElementException", "RuntimeException");
    private static final Set<String> LIBRARY = Set.of("Arrays.fill", "System.arraycopy", "Math.max");

    public static void main(String[] args) throws IOException {
        String source = Files.readString(Path.of(args.length > 0 ? args[0] : "src/main/java/OptimisticStore.java"));
        CHECK.same("signs beyond 127", source.chars().allMatch(sign -> sign < 128), true);
        String code = source.replaceAll("(?s)/\\*.*?\\*/", "").replaceAll("//[^\n]*", "")
                .replaceAll("\"[^\"\n]*\"", "\"\"");
        forbiddenWords(code);
        imports(code);
        thrown(code);
        library(code);
        statics(code);
        sizes(code);
        CHECK.finish("LanguageTest");
    }

    private static List<String> all(String code, String pattern) {
        return Pattern.compile(pattern).matcher(code).results().map(found -> found.group(found.groupCount())).toList();
    }

    private static void forbiddenWords(String code) {
        for (String word : new String[] {"->", "::", "@", "\\btry\\b", "\\bcatch\\b", "\\bfinally\\b", "\\bassert\\b",
                "\\bsynchronized\\b", "\\bpackage\\b", "\\bprotected\\b", "\\binstanceof\\b", "\\bnative\\b",
                "\\bhashCode\\b", "\\btoString\\b", "\\bequals\\b", "Exact\\b", "static \\{", "\\w\\[\\]\\[\\]\\["}) {
            CHECK.same("the source holds " + word, all(code, "(" + word + ")"), List.of());
        }
    }

    private static void imports(String code) {
        CHECK.same("imports", all(code, "import ([\\w.*]+);"),
                List.of("java.util.Arrays", "java.util.NoSuchElementException"));
    }

    private static void thrown(String code) {
        CHECK.same("throws of another form", all(code, "(\\bthrow (?!new \\w+\\(\"\"\\);|new \\w+\\(\\);).*)"), List.of());
        for (String name : all(code, "\\bthrow new (\\w+)")) {
            CHECK.same("throws " + name, EXCEPTIONS.contains(name), true);
        }
    }

    private static void library(String code) {
        Set<String> calls = new TreeSet<>(all(code, "\\b([A-Z][a-zA-Z]+\\.[a-z]\\w*)\\("));
        calls.removeAll(LIBRARY);
        CHECK.same("calls of the library beyond those looked at", calls, Set.of());
    }

    private static void statics(String code) {
        CHECK.same("static fields that are no plain constants",
                all(code, "((?:public|private) static (?!final (?:int|char|class) )(?![\\w\\[\\]]+ \\w+\\().*)"),
                List.of());
    }

    private static void sizes(String code) {
        CHECK.same("at most twelve classes", all(code, "(\\bclass )").size() <= 12, true);
        Matcher head = Pattern.compile("(?m)^( +)(?:\\w+ )*[\\w\\[\\]]+ ?\\w*\\(([^)]*)\\)[^;{]*\\{$").matcher(code);
        int methods = 0;
        while (head.find()) {
            methods++;
            CHECK.same("parameters of " + head.group().trim(), head.group(2).split(",").length <= 7, true);
            int end = code.indexOf("\n" + head.group(1) + "}", head.end());
            long lines = code.substring(head.start(), Math.max(head.end(), end)).lines().count();
            CHECK.same("lines of " + head.group().trim(), lines <= 60, true);
        }
        CHECK.same("methods were found", methods > 60, true);
    }
}
