import java.util.function.IntFunction;

/** The sentences that many promises share: which transactions, keys and commits there are. */
final class NumberSentences {
    interface ByNumber {
        void on(OptimisticStore x, int number);
    }

    static final String NO_TRANSACTION = "Throws `IndexOutOfBoundsException` if there is no such transaction";

    private final Sentences s;

    NumberSentences(Sentences s) {
        this.s = s;
    }

    /**
     * The call takes each transaction that there is and no other one; the maker makes two of the due state, after as
     * many aborted ones as it is told.
     */
    void transactions(IntFunction<OptimisticStore> maker, ByNumber call) {
        s.says("`transaction`: the number of the transaction");
        s.taken("transaction 0", () -> maker.apply(0), x -> call.on(x, 0));
        s.taken("transaction 1 of 2", () -> maker.apply(0), x -> call.on(x, 1));
        s.taken("transaction 79 of 80", () -> maker.apply(78), x -> call.on(x, 79));
        s.says(NO_TRANSACTION);
        s.refused("transaction 0 of none", Sentences.INDEX, Stores::empty, x -> call.on(x, 0));
        s.refused("transaction -1", Sentences.INDEX, () -> maker.apply(0), x -> call.on(x, -1));
        s.refused("transaction 2 of 2", Sentences.INDEX, () -> maker.apply(0), x -> call.on(x, 2));
        s.refused("transaction 80 of 80", Sentences.INDEX, () -> maker.apply(78), x -> call.on(x, 80));
        for (int number : Sentences.BEYOND_INT) {
            s.refused("transaction " + number, Sentences.INDEX, () -> maker.apply(0), x -> call.on(x, number));
        }
    }

    /** As above for a retry, which needs room for the new transaction. */
    void retriedTransactions() {
        s.says("`transaction`: the number of the transaction");
        s.taken("transaction 0", () -> Stores.aborted(2), x -> x.retry(0));
        s.taken("transaction 1 of 2", () -> Stores.aborted(2), x -> x.retry(1));
        s.taken("transaction 78 of 79", () -> Stores.aborted(79), x -> x.retry(78));
        s.says(NO_TRANSACTION);
        s.refused("transaction 0 of none", Sentences.INDEX, Stores::empty, x -> x.retry(0));
        s.refused("transaction -1", Sentences.INDEX, () -> Stores.aborted(2), x -> x.retry(-1));
        s.refused("transaction 2 of 2", Sentences.INDEX, () -> Stores.aborted(2), x -> x.retry(2));
        s.refused("transaction 80 of 80", Sentences.INDEX, () -> Stores.aborted(80), x -> x.retry(80));
        for (int number : Sentences.BEYOND_INT) {
            s.refused("transaction " + number, Sentences.INDEX, () -> Stores.aborted(2), x -> x.retry(number));
        }
    }

    /** The call, on transaction 0 if it needs one, takes the keys 0 to 31 and no other one. */
    void keys(String refusal, ByNumber call) {
        s.says("`key`: the key, 0 to 31");
        for (int key = 0; key < 32; key++) {
            int each = key;
            s.taken("key " + key, () -> Stores.active(1), x -> call.on(x, each));
        }
        s.says(refusal);
        wrongKeys("key", call);
    }

    void wrongKeys(String what, ByNumber call) {
        for (int key : new int[] {-1, 32, 33, 63, Integer.MIN_VALUE, Integer.MAX_VALUE}) {
            s.refused(what + " " + key, Sentences.ARGUMENT, () -> Stores.active(1), x -> call.on(x, key));
        }
    }

    /** The call takes each commit from the first one on and no other one. */
    void commits(String bullet, String refusal, int first, ByNumber call) {
        s.says(bullet);
        s.taken("the first of 2", () -> Stores.committed(2), x -> call.on(x, first));
        s.taken("commit 2 of 2", () -> Stores.committed(2), x -> call.on(x, 2));
        s.taken("commit 60 of 60", () -> Stores.committed(60), x -> call.on(x, 60));
        s.says(refusal);
        s.refused("the one before the first", Sentences.INDEX, () -> Stores.committed(2), x -> call.on(x, first - 1));
        s.refused("commit 1 of none", Sentences.INDEX, Stores::empty, x -> call.on(x, 1));
        s.refused("commit 3 of 2", Sentences.INDEX, () -> Stores.committed(2), x -> call.on(x, 3));
        s.refused("commit 61 of 60", Sentences.INDEX, () -> Stores.committed(60), x -> call.on(x, 61));
        s.refused("a commit that was taken back", Sentences.INDEX, NumberSentences::takenBack, x -> call.on(x, 3));
        for (int number : Sentences.BEYOND_INT) {
            s.refused("commit " + number, Sentences.INDEX, () -> Stores.committed(2), x -> call.on(x, number));
        }
    }

    private static OptimisticStore takenBack() {
        OptimisticStore x = Stores.committed(3);
        x.rewind(2);
        return x;
    }
}
