import java.util.function.Supplier;

/** The promises 1 to 4, 11 to 20, 25 and 26. */
final class TransactionSentences {
    private static final int ABSENT = OptimisticStore.ABSENT;

    private final Sentences s;
    private final NumberSentences numbers;

    TransactionSentences(Sentences s) {
        this.s = s;
        numbers = new NumberSentences(s);
    }

    void check() {
        s.promise(1);
        newObject();
        s.promise(2);
        configure();
        s.promise(3);
        begin();
        s.promise(4);
        retry();
        s.promise(11);
        commit();
        s.promise(12);
        abort();
        counts();
        s.promise(16);
        ticketHolder();
        s.promise(17);
        state();
        s.promise(18);
        attempt();
        s.promise(19);
        reason();
        s.promise(20);
        commitOf();
        s.promise(25);
        isStale();
        s.promise(26);
        rivals();
    }

    private void newObject() {
        s.says("Creates an empty store without transactions.");
        OptimisticStore x = Stores.empty();
        s.same("no transactions", x.transactionCount() + " " + x.activeCount(), "0 0");
        s.same("no commits", x.clock() + " " + x.longestChain() + " " + x.serialFaults(), "0 0 0");
        for (int key = 0; key < 32; key++) {
            s.same("key " + key, x.value(key) + " " + x.valueAt(key, 0) + " " + x.writerOf(key), "-1000 -1000 0");
        }
        for (int reason = 1; reason <= 6; reason++) {
            s.same("aborts " + reason, x.aborts(reason), 0);
        }
        s.same("no constraints", x.clearConstraints(), 0);
        s.same("no text and no fault", x.faultPosition() + " " + x.appendCharacter('r'), "-1 1");
        Stores.committed(3);
        s.same("another object does not matter", Check.everyAnswer(Stores.empty()).contains("t0"), false);
    }

    private void configure() {
        s.says("Sets the validation policy, the victim rule and the patience.");
        for (int policy = 0; policy <= 1; policy++) {
            for (int rule = 0; rule <= 2; rule++) {
                for (int patience = 1; patience <= 5; patience++) {
                    OptimisticStore x = Stores.configured(1 - policy, (rule + 1) % 3, 6 - patience);
                    x.configure(policy, rule, patience);
                    s.same(policy + " " + rule + " " + patience, behaviour(x), due(policy, rule, patience));
                }
            }
        }
        s.same("at first", behaviour(Stores.empty()), due(0, 0, 3));
        Supplier<OptimisticStore> other = () -> Stores.configured(1, 1, 2);
        s.says("`policy`: the validation policy, 0 or 1");
        s.taken("policy 0", other, x -> x.configure(0, 2, 3));
        s.taken("policy 1", other, x -> x.configure(1, 2, 3));
        s.says("`victimRule`: the victim rule, 0 to 2");
        s.taken("rule 0", other, x -> x.configure(0, 0, 3));
        s.taken("rule 2", other, x -> x.configure(0, 2, 3));
        s.says("`patience`: the patience, 1 to 5");
        s.taken("patience 1", other, x -> x.configure(0, 0, 1));
        s.taken("patience 5", other, x -> x.configure(0, 0, 5));
        s.says("Throws `IllegalArgumentException` if a number is out of range");
        for (int policy : new int[] {-1, 2, Integer.MIN_VALUE, Integer.MAX_VALUE}) {
            s.refused("policy " + policy, Sentences.ARGUMENT, other, x -> x.configure(policy, 0, 3));
        }
        for (int rule : new int[] {-1, 3, Integer.MIN_VALUE, Integer.MAX_VALUE}) {
            s.refused("rule " + rule, Sentences.ARGUMENT, other, x -> x.configure(0, rule, 3));
        }
        for (int patience : new int[] {0, 6, -1, Integer.MIN_VALUE, Integer.MAX_VALUE}) {
            s.refused("patience " + patience, Sentences.ARGUMENT, other, x -> x.configure(0, 0, patience));
        }
        s.says("Throws `IllegalStateException` if a transaction is active");
        s.taken("none yet", Stores::empty, x -> x.configure(1, 1, 2));
        s.taken("ended ones", () -> Stores.committedAfter(2), x -> x.configure(1, 1, 2));
        s.refused("one", Sentences.STATE, () -> Stores.active(1), x -> x.configure(1, 1, 2));
        s.refused("one, and nothing would change", Sentences.STATE, () -> Stores.active(1), x -> x.configure(0, 0, 3));
        s.refused("one among ended ones", Sentences.STATE, Stores::oneOfEach, x -> x.configure(1, 1, 2));
    }

    /** Whether a rival of equal size and one of greater size lose, and the attempt that gets the ticket. */
    private static String behaviour(OptimisticStore x) {
        return contest(x, 1) + contest(x, 2) + patienceOf(x);
    }

    private static String contest(OptimisticStore x, int reads) {
        int reader = x.begin();
        for (int count = 0; count < reads; count++) {
            x.read(reader, 0);
        }
        int answer = Check.run(x, "w0=1");
        String ends = (answer > 0 ? "commits" : "loses") + x.state(reader) + " ";
        if (x.state(reader) == 0) {
            x.abort(reader);
        }
        return ends;
    }

    private static int patienceOf(OptimisticStore x) {
        int number = x.begin();
        while (Check.outcome(x::ticketHolder).startsWith("throws")) {
            x.abort(number);
            number = x.retry(number);
        }
        return x.attempt(number) - 1;
    }

    private static String due(int policy, int rule, int patience) {
        String[] forward = {"loses0 loses0 ", "commits2 commits2 ", "commits2 loses0 "};
        return (policy == 0 ? "commits0 commits0 " : forward[rule]) + patience;
    }

    private void begin() {
        s.says("Begins a transaction.");
        OptimisticStore x = Stores.committed(2);
        int number = x.begin();
        s.same("active", x.state(number) + " " + x.activeCount() + " " + x.transactionCount(), "0 1 3");
        s.same("nothing done yet", x.operationCount(number) + " " + x.recordedKeys(number) + " "
                + x.predicateCount(number) + " " + x.writtenKeys(number) + " " + x.attempt(number), "0 0 0 0 1");
        s.says("Returns its number.");
        s.same("the first", Stores.empty().begin(), 0);
        s.same("the third", x.transactionCount() - 1, number);
        s.same("the last", Stores.aborted(79).begin(), 79);
        s.says("Throws `IllegalStateException` if 6 transactions are active, or there are 80 transactions");
        s.taken("with 5 active ones", () -> Stores.active(5), OptimisticStore::begin);
        s.refused("with 6 active ones", Sentences.STATE, () -> Stores.active(6), OptimisticStore::begin);
        s.taken("with 5 of 6 still active", TransactionSentences::fiveOfSix, OptimisticStore::begin);
        s.taken("with 79", () -> Stores.aborted(79), OptimisticStore::begin);
        s.refused("with 80", Sentences.STATE, () -> Stores.aborted(80), OptimisticStore::begin);
        s.refused("with 80, two of them active", Sentences.STATE, () -> Stores.activeAfter(78), OptimisticStore::begin);
    }

    private static OptimisticStore fiveOfSix() {
        OptimisticStore x = Stores.active(6);
        x.commit(0);
        return x;
    }

    private void retry() {
        s.says("Begins a transaction that is the next attempt of an aborted one.");
        OptimisticStore x = Stores.active(1);
        x.read(0, 1);
        x.write(0, 2, 3);
        x.sum(0, 0, 1);
        x.abort(0);
        x.retry(0);
        s.same("the next attempt", x.attempt(1) + " " + x.state(1) + " " + x.state(0), "2 0 2");
        s.says("Its operations are not repeated.");
        s.same("no operation", x.operationCount(1) + " " + x.recordedKeys(1) + " " + x.predicateCount(1) + " "
                + x.writtenKeys(1), "0 0 0 0");
        s.same("the old one's stand", x.operationCount(0), 3);
        numbers.retriedTransactions();
        s.says("Returns the number of the new transaction.");
        s.same("the next number", Stores.aborted(3).retry(0), 3);
        s.same("the last number", Stores.aborted(79).retry(0), 79);
        s.says("Throws `IllegalStateException` if the transaction is not aborted or was retried already, or 6"
                + " transactions are active, or there are 80 transactions");
        s.refused("an active one", Sentences.STATE, Stores::oneOfEach, y -> y.retry(0));
        s.refused("a committed one", Sentences.STATE, Stores::oneOfEach, y -> y.retry(1));
        s.taken("an aborted one", Stores::oneOfEach, y -> y.retry(2));
        s.refused("a second time", Sentences.STATE, TransactionSentences::retriedOnce, y -> y.retry(0));
        s.taken("the second attempt", TransactionSentences::retriedOnce, y -> y.retry(1));
        s.taken("with 5 active ones", () -> oneAbortedAnd(5), y -> y.retry(0));
        s.refused("with 6 active ones", Sentences.STATE, () -> oneAbortedAnd(6), y -> y.retry(0));
        s.taken("with 79", () -> Stores.aborted(79), y -> y.retry(0));
        s.refused("with 80", Sentences.STATE, () -> Stores.aborted(80), y -> y.retry(0));
        OptimisticStore later = oneAbortedAnd(6);
        Check.outcome(() -> later.retry(0));
        later.abort(6);
        s.same("a refused retry does not count as one", later.retry(0), 7);
    }

    private static OptimisticStore retriedOnce() {
        OptimisticStore x = Stores.aborted(1);
        x.retry(0);
        x.abort(1);
        return x;
    }

    private static OptimisticStore oneAbortedAnd(int active) {
        OptimisticStore x = Stores.aborted(1);
        for (int count = 0; count < active; count++) {
            x.begin();
        }
        return x;
    }

    private void commit() {
        s.says("Tries to commit a transaction.");
        OptimisticStore x = Stores.active(1);
        x.write(0, 31, -999);
        x.commit(0);
        s.same("committed", x.state(0) + " " + x.value(31) + " " + x.clock() + " " + x.activeCount(), "1 -999 1 0");
        numbers.transactions(Stores::activeAfter, OptimisticStore::commit);
        s.says("Returns the number of the commit, BLOCKED if the transaction is blocked, or ABORTED if it is"
                + " aborted.");
        s.same("the first", Stores.active(1).commit(0), 1);
        OptimisticStore last = Stores.committed(59);
        s.same("the last", last.commit(last.begin()), 60);
        OptimisticStore y = Stores.ticket(0, 0);
        y.read(1, 0);
        y.begin();
        y.read(2, 1);
        y.write(2, 0, 1);
        s.same("blocked", y.commit(2) + " " + y.state(2), "-1 0");
        Check.run(y, "w1=1");
        s.same("blocked and stale", y.commit(2) + " " + y.state(2), "-1 0");
        y.abort(1);
        s.same("aborted", y.commit(2) + " " + y.state(2), "-2 2");
        s.says("Throws `IllegalStateException` if the transaction is not active, or there are 60 commits");
        s.refused("a committed one", Sentences.STATE, Stores::oneOfEach, z -> z.commit(1));
        s.refused("an aborted one", Sentences.STATE, Stores::oneOfEach, z -> z.commit(2));
        s.taken("with 59 commits", () -> afterCommits(59), z -> z.commit(59));
        s.refused("with 60 commits", Sentences.STATE, () -> afterCommits(60), z -> z.commit(60));
        s.refused("with 60 commits, a committed one", Sentences.STATE, () -> afterCommits(60), z -> z.commit(0));
    }

    private static OptimisticStore afterCommits(int count) {
        OptimisticStore x = Stores.committed(count);
        x.begin();
        x.write(count, 3, 3);
        return x;
    }

    private void abort() {
        s.says("Aborts a transaction, with reason 5.");
        OptimisticStore x = Stores.active(2);
        x.write(0, 0, 1);
        x.abort(0);
        s.same("aborted", x.state(0) + " " + x.reason(0) + " " + x.value(0) + " " + x.clock(), "2 5 " + ABSENT + " 0");
        s.same("the other one is not", x.state(1) + " " + x.activeCount(), "0 1");
        numbers.transactions(Stores::activeAfter, OptimisticStore::abort);
        s.says("Throws `IllegalStateException` if the transaction is not active");
        s.refused("a committed one", Sentences.STATE, Stores::oneOfEach, y -> y.abort(1));
        s.refused("an aborted one", Sentences.STATE, Stores::oneOfEach, y -> y.abort(2));
        s.taken("an active one", Stores::oneOfEach, y -> y.abort(0));
    }

    private void counts() {
        s.promise(13);
        s.says("Returns the clock.");
        OptimisticStore x = Stores.committed(3);
        s.same("after three commits", x.clock(), 3);
        x.rewind(1);
        s.same("after a rewind", x.clock(), 1);
        s.says("Returns 0 to 60.");
        s.same("none", Stores.empty().clock(), 0);
        s.same("all", Stores.committed(60).clock(), 60);
        s.promise(14);
        s.says("Returns the number of transactions.");
        s.same("in every state", Stores.oneOfEach().transactionCount(), 3);
        s.same("after a rewind they are as many", x.transactionCount(), 3);
        s.says("Returns 0 to 80.");
        s.same("none", Stores.empty().transactionCount(), 0);
        s.same("all", Stores.aborted(80).transactionCount(), 80);
        s.promise(15);
        s.says("Returns the number of active transactions.");
        s.same("one of three", Stores.oneOfEach().activeCount(), 1);
        s.says("Returns 0 to 6.");
        s.same("none", Stores.empty().activeCount(), 0);
        s.same("none any more", Stores.committed(60).activeCount(), 0);
        s.same("all", Stores.active(6).activeCount(), 6);
    }

    private void ticketHolder() {
        s.says("Returns the transaction that holds the ticket.");
        OptimisticStore x = Stores.ticket(0, 0);
        x.begin();
        s.same("the holder", x.ticketHolder(), 1);
        s.says("Returns its number.");
        OptimisticStore last = Stores.configured(0, 0, 1);
        for (int number = 0; number < 79; number++) {
            last.abort(last.begin());
        }
        last.retry(0);
        s.same("the last number", last.ticketHolder(), 79);
        OptimisticStore early = Stores.aborted(1);
        for (int number = 0; number < 3; number++) {
            early.retry(number);
            if (number < 2) {
                early.abort(number + 1);
            }
        }
        s.same("attempt 4", early.ticketHolder(), 3);
        s.says("Throws `NoSuchElementException` if nobody holds it");
        s.refused("no transaction", Sentences.NO_ELEMENT, Stores::empty, OptimisticStore::ticketHolder);
        s.refused("only first attempts", Sentences.NO_ELEMENT, () -> Stores.active(6), OptimisticStore::ticketHolder);
        s.refused("the holder has committed", Sentences.NO_ELEMENT, () -> {
            OptimisticStore y = Stores.ticket(0, 0);
            y.commit(1);
            return y;
        }, OptimisticStore::ticketHolder);
    }

    private void state() {
        s.says("Returns the state of a transaction.");
        OptimisticStore x = Stores.committed(1);
        x.rewind(0);
        s.same("a rewound one", x.state(0), 2);
        numbers.transactions(Stores::activeAfter, OptimisticStore::state);
        s.says("Returns 0 to 2.");
        OptimisticStore y = Stores.oneOfEach();
        s.same("the three", y.state(0) + " " + y.state(1) + " " + y.state(2), "0 1 2");
    }

    private void attempt() {
        s.says("Returns the attempt number of a transaction.");
        OptimisticStore x = retriedOnce();
        s.same("the second", x.attempt(1), 2);
        s.same("the first stays", x.attempt(0), 1);
        numbers.transactions(Stores::activeAfter, OptimisticStore::attempt);
        s.says("Returns the number, from 1.");
        s.same("the least", Stores.active(1).attempt(0), 1);
    }

    private void reason() {
        s.says("Returns why a transaction was aborted.");
        OptimisticStore x = Stores.active(1);
        x.abort(0);
        s.same("by abort", x.reason(0), 5);
        numbers.transactions(TransactionSentences::abortedAfter, OptimisticStore::reason);
        s.says("Returns 1 to 6.");
        s.same("1, a key", reasonAfter("r0", "w0=1"), 1);
        s.same("2, a predicate", reasonAfter("s0", "w0=1"), 2);
        OptimisticStore y = Stores.configured(1, 1, 5);
        y.begin();
        y.read(0, 0);
        Check.run(y, "w0=1");
        s.same("3, a rival", y.reason(0), 3);
        y.addConstraint(2, 1, 1, 0);
        Check.run(y, "w1=1");
        s.same("4, a constraint", y.reason(2), 4);
        Check.run(y, "s1-0");
        s.same("5, a step", y.reason(3), 5);
        y.rewind(0);
        s.same("6, a rewind", y.reason(1), 6);
        s.same("the others stay", y.reason(0) + " " + y.reason(2) + " " + y.reason(3), "3 4 5");
        s.says("Throws `IllegalStateException` if the transaction is not aborted");
        s.refused("an active one", Sentences.STATE, Stores::oneOfEach, z -> z.reason(0));
        s.refused("a committed one", Sentences.STATE, Stores::oneOfEach, z -> z.reason(1));
        s.taken("an aborted one", Stores::oneOfEach, z -> z.reason(2));
    }

    private static OptimisticStore abortedAfter(int aborted) {
        return Stores.aborted(aborted + 2);
    }

    private static int reasonAfter(String record, String script) {
        OptimisticStore x = Stores.active(1);
        if (record.equals("r0")) {
            x.read(0, 0);
        } else {
            x.sum(0, 0, 0);
        }
        Check.run(x, script);
        x.commit(0);
        return x.reason(0);
    }

    private void commitOf() {
        s.says("Returns the commit of a transaction.");
        OptimisticStore x = Stores.active(3);
        x.commit(2);
        x.commit(0);
        s.same("by the order of the commits", x.commitOf(2) + " " + x.commitOf(0), "1 2");
        numbers.transactions(Stores::committedAfter, OptimisticStore::commitOf);
        s.says("Returns the number of the commit.");
        OptimisticStore y = Stores.committed(60);
        s.same("the first and the last", y.commitOf(0) + " " + y.commitOf(59), "1 60");
        s.says("Throws `IllegalStateException` if the transaction is not committed");
        s.refused("an active one", Sentences.STATE, Stores::oneOfEach, z -> z.commitOf(0));
        s.refused("an aborted one", Sentences.STATE, Stores::oneOfEach, z -> z.commitOf(2));
        s.refused("a rewound one", Sentences.STATE, () -> {
            OptimisticStore z = Stores.committed(2);
            z.rewind(1);
            return z;
        }, z -> z.commitOf(1));
        s.taken("a committed one", Stores::oneOfEach, z -> z.commitOf(1));
    }

    private void isStale() {
        s.says("Returns whether an active transaction is stale, as defined for backward validation, whatever the policy"
                + " is.");
        OptimisticStore backward = Stores.configured(0, 0, 3);
        backward.begin();
        backward.read(0, 0);
        Check.run(backward, "w0=1");
        s.same("backward", backward.isStale(0), true);
        OptimisticStore forward = Stores.configured(1, 1, 3);
        forward.begin();
        forward.read(0, 1);
        Check.run(forward, "w0=1");
        s.same("forward, the rivals being gone", forward.isStale(0), false);
        numbers.transactions(Stores::activeAfter, OptimisticStore::isStale);
        s.says("Returns whether it is stale.");
        s.same("nothing recorded", Stores.active(1).isStale(0), false);
        OptimisticStore x = Stores.active(1);
        x.read(0, 0);
        s.same("no commit since", x.isStale(0), false);
        Check.run(x, "w1=1");
        s.same("another key", x.isStale(0), false);
        Check.run(x, "d0");
        s.same("this key", x.isStale(0), true);
        Check.run(x, "w2=1");
        s.same("it stays so", x.isStale(0), true);
        notActive("isStale", OptimisticStore::isStale);
    }

    private void notActive(String what, NumberSentences.ByNumber call) {
        s.says("Throws `IllegalStateException` if the transaction is not active");
        s.refused(what + " of a committed one", Sentences.STATE, Stores::oneOfEach, x -> call.on(x, 1));
        s.refused(what + " of an aborted one", Sentences.STATE, Stores::oneOfEach, x -> call.on(x, 2));
        s.taken(what + " of an active one", Stores::oneOfEach, x -> call.on(x, 0));
    }

    private void rivals() {
        s.says("Returns how many other active transactions the writes of an active transaction conflict with, whatever"
                + " the policy is.");
        for (int policy = 0; policy <= 1; policy++) {
            OptimisticStore x = Stores.configured(policy, 0, 3);
            for (int number = 0; number < 6; number++) {
                x.begin();
                x.sum(number, number, 31);
            }
            x.write(0, 2, 1);
            s.same("policy " + policy, x.rivals(0), 2);
        }
        numbers.transactions(Stores::activeAfter, OptimisticStore::rivals);
        s.says("Returns the number of transactions.");
        s.same("alone", Stores.active(1).rivals(0), 0);
        OptimisticStore x = Stores.active(6);
        for (int number = 0; number < 6; number++) {
            x.read(number, 31);
            x.sum(number, 31, 31);
            x.write(number, 31, number);
        }
        for (int number = 0; number < 6; number++) {
            s.same("all the others, each once", x.rivals(number), 5);
        }
        notActive("rivals", OptimisticStore::rivals);
    }
}
