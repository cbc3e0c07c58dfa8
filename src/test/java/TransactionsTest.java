/** Promises 1 to 4, 12 to 19: how transactions begin, end and are told of, and the ticket. */
public final class TransactionsTest {
    private static final Check CHECK = new Check();

    public static void main(String[] args) {
        newStore();
        configuring();
        configuringWrongly();
        beginning();
        eightyTransactions();
        retrying();
        aborting();
        unknownTransactions();
        ticket();
        patience();
        CHECK.finish("TransactionsTest");
    }

    private static void newStore() {
        OptimisticStore x = new OptimisticStore();
        CHECK.same("new clock", x.clock(), 0);
        CHECK.same("new transactionCount", x.transactionCount(), 0);
        CHECK.same("new activeCount", x.activeCount(), 0);
        CHECK.same("new longestChain", x.longestChain(), 0);
        CHECK.same("new serialFaults", x.serialFaults(), 0);
        CHECK.same("new faultPosition", x.faultPosition(), -1);
        CHECK.same("new clearConstraints", x.clearConstraints(), 0);
        for (int key = 0; key < 32; key++) {
            CHECK.same("new value", x.value(key), OptimisticStore.ABSENT);
            CHECK.same("new valueAt", x.valueAt(key, 0), OptimisticStore.ABSENT);
            CHECK.same("new writerOf", x.writerOf(key), 0);
        }
        for (int reason = 1; reason <= 6; reason++) {
            CHECK.same("new aborts", x.aborts(reason), 0);
        }
        CHECK.refused(x, java.util.NoSuchElementException.class, "new ticketHolder", x::ticketHolder);
        CHECK.refused(x, ArithmeticException.class, "new averageAttempts", x::averageAttempts);
        CHECK.refused(x, ArithmeticException.class, "new abortRate", x::abortRate);
        CHECK.index(x, "new state", () -> x.state(0));
    }

    private static void configuring() {
        OptimisticStore x = new OptimisticStore();
        for (int policy = 0; policy <= 1; policy++) {
            for (int rule = 0; rule <= 2; rule++) {
                for (int patience = 1; patience <= 5; patience++) {
                    x.configure(policy, rule, patience);
                }
            }
        }
        x.begin();
        CHECK.state(x, "configure with an active one", () -> x.configure(0, 0, 3));
        CHECK.argument(x, "the number is looked at before the state", () -> x.configure(0, 0, 0));
        x.abort(0);
        x.configure(0, 0, 3);
    }

    private static void configuringWrongly() {
        OptimisticStore x = new OptimisticStore();
        CHECK.argument(x, "policy -1", () -> x.configure(-1, 0, 3));
        CHECK.argument(x, "policy 2", () -> x.configure(2, 0, 3));
        CHECK.argument(x, "rule -1", () -> x.configure(0, -1, 3));
        CHECK.argument(x, "rule 3", () -> x.configure(0, 3, 3));
        CHECK.argument(x, "patience 0", () -> x.configure(0, 0, 0));
        CHECK.argument(x, "patience 6", () -> x.configure(0, 0, 6));
        CHECK.argument(x, "extreme numbers",
                () -> x.configure(Integer.MIN_VALUE, Integer.MAX_VALUE, Integer.MIN_VALUE));
        // A refused configuration changes nothing: validation is still backward.
        CHECK.argument(x, "policy 1 with patience 6", () -> x.configure(1, 1, 6));
        x.begin();
        x.begin();
        x.read(1, 0);
        x.write(0, 0, 1);
        x.commit(0);
        CHECK.same("the reader stays active", x.state(1), 0);
        CHECK.same("the reader is stale", x.commit(1), OptimisticStore.ABORTED);
    }

    private static void beginning() {
        OptimisticStore x = new OptimisticStore();
        for (int number = 0; number < 6; number++) {
            CHECK.same("begin", x.begin(), number);
            CHECK.same("activeCount", x.activeCount(), number + 1);
            CHECK.same("transactionCount", x.transactionCount(), number + 1);
            CHECK.same("state", x.state(number), 0);
            CHECK.same("attempt", x.attempt(number), 1);
            CHECK.same("operationCount", x.operationCount(number), 0);
            CHECK.same("recordedKeys", x.recordedKeys(number), 0);
            CHECK.same("predicateCount", x.predicateCount(number), 0);
            CHECK.same("writtenKeys", x.writtenKeys(number), 0);
        }
        CHECK.state(x, "a seventh active one", x::begin);
        x.abort(3);
        CHECK.same("begin after an abort", x.begin(), 6);
        CHECK.state(x, "retry with six active ones", () -> x.retry(3));
        CHECK.same("commit", x.commit(0), 1);
        CHECK.same("retry after a commit", x.retry(3), 7);
        CHECK.same("activeCount", x.activeCount(), 6);
    }

    private static void eightyTransactions() {
        OptimisticStore x = new OptimisticStore();
        for (int number = 0; number < 79; number++) {
            CHECK.same("begin", x.begin(), number);
            x.abort(number);
        }
        CHECK.same("the eightieth, by retry", x.retry(78), 79);
        CHECK.same("transactionCount", x.transactionCount(), 80);
        x.abort(79);
        CHECK.state(x, "an eighty-first", x::begin);
        CHECK.state(x, "an eighty-first by retry", () -> x.retry(0));
        CHECK.index(x, "transaction 80", () -> x.state(80));
        CHECK.same("aborts", x.aborts(5), 80);
    }

    private static void retrying() {
        OptimisticStore x = new OptimisticStore();
        x.begin();
        x.write(0, 4, 44);
        x.read(0, 5);
        CHECK.state(x, "retry of an active one", () -> x.retry(0));
        x.abort(0);
        CHECK.same("retry", x.retry(0), 1);
        CHECK.same("attempt", x.attempt(1), 2);
        CHECK.same("attempt of the old one", x.attempt(0), 1);
        CHECK.same("no operation is repeated", x.operationCount(1), 0);
        CHECK.same("no write is repeated", x.writtenKeys(1), 0);
        CHECK.same("no read is repeated", x.recordedKeys(1), 0);
        CHECK.same("the old one's operations stand", x.operationCount(0), 2);
        CHECK.state(x, "a second retry", () -> x.retry(0));
        x.commit(1);
        CHECK.state(x, "retry of a committed one", () -> x.retry(1));
        CHECK.index(x, "retry of -1", () -> x.retry(-1));
        CHECK.index(x, "retry of 2", () -> x.retry(2));
        CHECK.state(x, "still retried already", () -> x.retry(0));
    }

    private static void aborting() {
        OptimisticStore x = new OptimisticStore();
        x.begin();
        x.write(0, 0, 7);
        CHECK.state(x, "reason of an active one", () -> x.reason(0));
        x.abort(0);
        CHECK.same("state", x.state(0), 2);
        CHECK.same("reason", x.reason(0), 5);
        CHECK.same("value", x.value(0), OptimisticStore.ABSENT);
        CHECK.same("clock", x.clock(), 0);
        CHECK.same("activeCount", x.activeCount(), 0);
        CHECK.state(x, "abort of an aborted one", () -> x.abort(0));
        x.begin();
        x.commit(1);
        CHECK.same("state of a committed one", x.state(1), 1);
        CHECK.state(x, "abort of a committed one", () -> x.abort(1));
        CHECK.state(x, "reason of a committed one", () -> x.reason(1));
    }

    private static void unknownTransactions() {
        OptimisticStore x = new OptimisticStore();
        x.begin();
        for (int number : new int[] {-1, 1, 80, Integer.MIN_VALUE, Integer.MAX_VALUE}) {
            CHECK.index(x, "retry", () -> x.retry(number));
            CHECK.index(x, "read", () -> x.read(number, -1));
            CHECK.index(x, "scan", () -> x.scan(number, 3, 2, 0));
            CHECK.index(x, "sum", () -> x.sum(number, 3, 2));
            CHECK.index(x, "write", () -> x.write(number, 0, 1000));
            CHECK.index(x, "remove", () -> x.remove(number, 32));
            CHECK.index(x, "add", () -> x.add(number, 0, 1000));
            CHECK.index(x, "commit", () -> x.commit(number));
            CHECK.index(x, "abort", () -> x.abort(number));
            CHECK.index(x, "state", () -> x.state(number));
            CHECK.index(x, "attempt", () -> x.attempt(number));
            CHECK.index(x, "reason", () -> x.reason(number));
            CHECK.index(x, "commitOf", () -> x.commitOf(number));
            CHECK.index(x, "operationCount", () -> x.operationCount(number));
            CHECK.index(x, "recordedKeys", () -> x.recordedKeys(number));
            CHECK.index(x, "predicateCount", () -> x.predicateCount(number));
            CHECK.index(x, "writtenKeys", () -> x.writtenKeys(number));
            CHECK.index(x, "isStale", () -> x.isStale(number));
            CHECK.index(x, "rivals", () -> x.rivals(number));
        }
    }

    private static void ticket() {
        OptimisticStore x = new OptimisticStore();
        x.configure(0, 0, 1);
        x.begin();
        x.begin();
        x.abort(0);
        x.abort(1);
        x.retry(0);
        CHECK.same("the second attempt holds the ticket", x.ticketHolder(), 2);
        x.retry(1);
        CHECK.same("only one holds it", x.ticketHolder(), 2);
        x.abort(3);
        CHECK.same("another's abort does not free it", x.ticketHolder(), 2);
        x.begin();
        x.commit(4);
        CHECK.same("another's commit does not free it", x.ticketHolder(), 2);
        x.abort(2);
        CHECK.refused(x, java.util.NoSuchElementException.class, "free after an abort", x::ticketHolder);
        x.begin();
        CHECK.refused(x, java.util.NoSuchElementException.class, "a first attempt gets none", x::ticketHolder);
        x.retry(3);
        CHECK.same("the third attempt holds it", x.ticketHolder(), 6);
        x.commit(6);
        CHECK.refused(x, java.util.NoSuchElementException.class, "free after a commit", x::ticketHolder);
        x.retry(2);
        CHECK.same("free for the next", x.ticketHolder(), 7);
    }

    private static void patience() {
        OptimisticStore first = new OptimisticStore();
        CHECK.same("patience is 3 at first", attemptWithTicket(first), 4);
        for (int patience = 1; patience <= 5; patience++) {
            OptimisticStore x = new OptimisticStore();
            x.configure(1, 2, patience);
            CHECK.same("patience " + patience, attemptWithTicket(x), patience + 1);
        }
    }

    private static int attemptWithTicket(OptimisticStore x) {
        int number = x.begin();
        while (x.attempt(number) < 20 && Check.outcome(x::ticketHolder).startsWith("throws")) {
            x.abort(number);
            int old = number;
            number = x.retry(old);
            CHECK.same("attempt", x.attempt(number), x.attempt(old) + 1);
        }
        CHECK.same("the holder", x.ticketHolder(), number);
        return x.attempt(number);
    }
}
