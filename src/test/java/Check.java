import java.util.function.Supplier;

/** Counts and prints the answers that are not the ones that are due. */
final class Check {
    private int made;
    private int wrong;

    void same(String what, Object got, Object due) {
        made++;
        if (!got.equals(due)) {
            wrong++;
            System.out.println(what + " answered " + got + ", due is " + due);
        }
    }

    /** The call throws just this exception, and every question that can be put to the store is answered as before. */
    void refused(OptimisticStore x, Class<? extends RuntimeException> due, String what, Runnable call) {
        String before = everyAnswer(x);
        same(what, outcome(() -> {
            call.run();
            return "nothing thrown";
        }), "throws." + due.getSimpleName());
        same("the state after the refused " + what, everyAnswer(x), before);
    }

    void index(OptimisticStore x, String what, Runnable call) {
        refused(x, IndexOutOfBoundsException.class, what, call);
    }

    void argument(OptimisticStore x, String what, Runnable call) {
        refused(x, IllegalArgumentException.class, what, call);
    }

    void state(OptimisticStore x, String what, Runnable call) {
        refused(x, IllegalStateException.class, what, call);
    }

    void finish(String name) {
        System.out.println(name + ": " + made + " checks, " + wrong + " wrong");
        if (wrong != 0 || made == 0) {
            System.exit(1);
        }
    }

    /** The answer, or throws. and the name of the exception. */
    static String outcome(Supplier<Object> call) {
        try {
            return String.valueOf(call.get());
        } catch (RuntimeException thrown) {
            return "throws." + thrown.getClass().getSimpleName();
        }
    }

    static int appendAll(OptimisticStore x, String text) {
        int length = 0;
        for (char character : text.toCharArray()) {
            length = x.appendCharacter(character);
        }
        return length;
    }

    static int run(OptimisticStore x, String text) {
        appendAll(x, text);
        return x.runScript();
    }

    static String everyAnswer(OptimisticStore x) {
        StringBuilder all = new StringBuilder();
        all.append(x.clock()).append(' ').append(x.transactionCount()).append(' ').append(x.activeCount());
        all.append(' ').append(outcome(x::ticketHolder)).append(' ').append(x.longestChain());
        all.append(' ').append(x.serialFaults()).append(' ').append(x.faultPosition());
        all.append(' ').append(outcome(x::averageAttempts)).append(' ').append(outcome(x::abortRate));
        for (int reason = 1; reason <= 6; reason++) {
            all.append(' ').append(x.aborts(reason));
        }
        for (int number = 0; number < x.transactionCount(); number++) {
            all.append("\nt").append(number).append(' ').append(answersOf(x, number));
        }
        for (int key = 0; key < 32; key++) {
            all.append("\nk").append(key).append(' ').append(x.value(key)).append(' ').append(x.writerOf(key));
            for (int commit = 0; commit <= x.clock(); commit++) {
                all.append(' ').append(x.valueAt(key, commit));
            }
        }
        for (int later = 1; later <= x.clock(); later++) {
            all.append("\nc").append(later).append(' ').append(x.transactionOf(later));
            for (int earlier = 1; earlier < later; earlier++) {
                all.append(' ').append(x.dependency(earlier, later));
            }
        }
        return all.toString();
    }

    private static String answersOf(OptimisticStore x, int number) {
        return x.state(number) + " " + x.attempt(number) + " " + outcome(() -> x.reason(number)) + " "
                + outcome(() -> x.commitOf(number)) + " " + x.operationCount(number) + " "
                + x.recordedKeys(number) + " " + x.predicateCount(number) + " " + x.writtenKeys(number) + " "
                + outcome(() -> x.isStale(number)) + " " + outcome(() -> x.rivals(number));
    }
}
