import java.io.IOException;
import java.nio.file.Path;
import java.util.LinkedHashMap;
import java.util.List;
import java.util.Map;
import java.util.function.Supplier;

/** Checks that stand each under the sentence of the document that asks for it. */
final class Sentences {
    interface Deed {
        void on(OptimisticStore x);
    }

    static final String INDEX = "IndexOutOfBoundsException";
    static final String ARGUMENT = "IllegalArgumentException";
    static final String STATE = "IllegalStateException";
    static final String ARITHMETIC = "ArithmeticException";
    static final String NO_ELEMENT = "NoSuchElementException";
    static final int[] BEYOND_INT = {Integer.MIN_VALUE, Integer.MAX_VALUE};

    private final Document document;
    private final Map<String, Integer> checksBySentence = new LinkedHashMap<>();
    private String section = "";
    private String sentence = "";
    private int made;
    private int wrong;

    Sentences(Path path) throws IOException {
        document = new Document(path);
    }

    void section(String name) {
        section = name;
    }

    void promise(int number) {
        section("Promise " + number);
    }

    /** The checks that follow belong to this sentence of the section. */
    void says(String text) {
        sentence = text;
        if (!document.has(section, text)) {
            complain("the document has no such sentence");
        }
        checksBySentence.putIfAbsent(section + ": " + text, 0);
    }

    void same(String what, Object got, Object due) {
        made++;
        checksBySentence.merge(section + ": " + sentence, 1, Integer::sum);
        if (!String.valueOf(got).equals(String.valueOf(due))) {
            complain(what + " answered " + got + ", due is " + due);
        }
    }

    void taken(String what, Supplier<OptimisticStore> maker, Deed deed) {
        same(what, outcome(maker.get(), deed), "no exception");
    }

    /**
     * The call throws just this exception, and leaves an object that answers and goes on as one on which the call
     * was never made.
     */
    void refused(String what, String exception, Supplier<OptimisticStore> maker, Deed deed) {
        OptimisticStore x = maker.get();
        String before = Check.everyAnswer(x);
        same(what, outcome(x, deed), "throws." + exception);
        same(what + ", every answer after it", Check.everyAnswer(x), before);
        same(what + ", what comes after it", Aftermath.of(x), Aftermath.of(maker.get()));
    }

    void finish(String name) {
        for (Map.Entry<String, List<String>> each : document.sections().entrySet()) {
            for (String text : each.getValue()) {
                if (checksBySentence.getOrDefault(each.getKey() + ": " + text, 0) == 0) {
                    section = each.getKey();
                    sentence = text;
                    complain("no check stands under this sentence");
                }
            }
        }
        System.out.println(name + ": " + made + " checks under " + checksBySentence.size() + " sentences, "
                + wrong + " wrong");
        if (wrong != 0 || made == 0) {
            System.exit(1);
        }
    }

    private void complain(String what) {
        wrong++;
        System.out.println(section + ", \"" + sentence + "\": " + what);
    }

    private static String outcome(OptimisticStore x, Deed deed) {
        return Check.outcome(() -> {
            deed.on(x);
            return "no exception";
        });
    }
}
