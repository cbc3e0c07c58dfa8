import java.util.ArrayList;
import java.util.List;
import java.util.Set;
import java.util.regex.Matcher;
import java.util.regex.Pattern;

/** The pieces of Java on a page as one program, which keeps each answer beside the one that the page says. */
final class ReadmeExample {
    static final String NAME = "ReadmeProgram";

    private static final int MOST_CHARACTERS = 60;
    private static final Pattern STATED = Pattern.compile(
            "(?:\\w+ (?<name>\\w+) = )?(?<call>.*\\));\\s+"
                    + "// (?<how>answers|throws) (?<due>-?\\w+(?:\\.\\w+)?)(?:: .*)?");
    private static final Pattern CALL = Pattern.compile("\\bstore\\.(\\w+)\\(");
    // They answer nothing; or a length that no reader waits for.
    private static final Set<String> SILENT = Set.of("configure", "write", "remove", "abort", "appendCharacter");
    private static final Set<String> CONSTANTS = Set.of("ABSENT", "BLOCKED", "ABORTED");

    private final List<String> lines = new ArrayList<>();
    private final List<Integer> numbers = new ArrayList<>();

    ReadmeExample(String page) {
        boolean inside = false;
        int number = 0;
        for (String line : page.split("\n")) {
            number++;
            if (line.startsWith("```")) {
                inside = line.equals("```java");
            } else if (inside) {
                lines.add(line.trim());
                numbers.add(number);
            }
        }
    }

    boolean calls(String method) {
        return lines.stream().anyMatch(line -> line.contains("store." + method + "("));
    }

    boolean says(String words) {
        return lines.stream().anyMatch(line -> line.contains("// " + words));
    }

    /** A line makes one call, but a loop one for each character of a text. */
    int mostCalls() {
        int count = 0;
        for (String line : lines) {
            count += line.contains("appendCharacter") ? MOST_CHARACTERS : line.contains("store.") ? 1 : 0;
        }
        return count;
    }

    List<String> unanswered() {
        List<String> found = new ArrayList<>();
        for (String line : lines) {
            Matcher call = CALL.matcher(line);
            if (call.find() && !SILENT.contains(call.group(1)) && !STATED.matcher(line).matches()) {
                found.add(line);
            }
        }
        return found;
    }

    String program() {
        StringBuilder program = new StringBuilder("public final class " + NAME + " {\n"
                + "public static void run(java.util.List<String[]> rows) {\n");
        for (int index = 0; index < lines.size(); index++) {
            program.append(checked(lines.get(index), numbers.get(index))).append('\n');
        }
        return program.append("}\n}\n").toString();
    }

    private static String checked(String line, int number) {
        Matcher stated = STATED.matcher(line);
        if (!stated.matches()) {
            return line;
        }
        String call = stated.group("call");
        String what = number + ": " + call;
        String due = stated.group("due");
        if (stated.group("how").equals("throws")) {
            return "try { " + call + "; " + row(what, "\"nothing thrown\"", due)
                    + " } catch (RuntimeException thrown) { "
                    + row(what, "thrown.getClass().getSimpleName()", due) + " }";
        }
        String name = stated.group("name");
        return name == null ? row(what, call, due) : line + "\n" + row(what, name, due);
    }

    private static String row(String what, String got, String due) {
        String wanted = CONSTANTS.contains(due) ? "String.valueOf(OptimisticStore." + due + ")" : "\"" + due + "\"";
        return "rows.add(new String[] {\"" + what + "\", String.valueOf(" + got + "), " + wanted + "});";
    }
}
