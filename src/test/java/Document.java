import java.io.IOException;
import java.nio.file.Files;
import java.nio.file.Path;
import java.util.ArrayList;
import java.util.LinkedHashMap;
import java.util.List;
import java.util.Map;
import java.util.Set;

/** The sentences of the document, by section; "Promise 2" stands for the section "Promise 2: configure". */
final class Document {
    // The face is looked at by FaceTest; what is not promised needs no test.
    private static final Set<String> LEFT_OUT = Set.of("The public face", "Not promised");
    // Sentences that say nothing of what a call does.
    private static final List<String> ABOUT_THE_DOCUMENT = List.of("A key-value store with optimistic concurrency",
            "The class is not thread-safe.", "The constants:", "The constructor and the methods follow,");

    private final Map<String, List<String>> sections = new LinkedHashMap<>();

    Document(Path path) throws IOException {
        for (String part : Files.readString(path).split("(?m)^## ")) {
            String[] headAndBody = part.split("\n", 2);
            String head = headAndBody[0].replaceAll(":.*", "").trim();
            if (headAndBody.length == 2 && !head.startsWith("#") && !LEFT_OUT.contains(head)) {
                sections.put(head, sentencesOf(headAndBody[1]));
            }
        }
    }

    boolean has(String section, String sentence) {
        return sections.getOrDefault(section, List.of()).contains(sentence);
    }

    Map<String, List<String>> sections() {
        return sections;
    }

    private static List<String> sentencesOf(String body) {
        List<String> sentences = new ArrayList<>();
        for (String paragraph : body.trim().split("\n\\s*\n")) {
            if (paragraph.startsWith("`")) {
                continue;
            }
            String end = paragraph.startsWith("- ") ? "(?m)^- " : "(?<=\\.)\\s(?=[A-Z])";
            for (String sentence : paragraph.split(end)) {
                String plain = sentence.replaceAll("\\s+", " ").trim();
                if (!isHeading(plain) && ABOUT_THE_DOCUMENT.stream().noneMatch(plain::startsWith)) {
                    sentences.add(plain);
                }
            }
        }
        return sentences;
    }

    /** "Store." or "Validation policy." before the sentences of a paragraph. */
    private static boolean isHeading(String sentence) {
        return sentence.matches("|[A-Z][a-z]+\\.|Validation policy\\.");
    }
}
