import java.lang.reflect.Field;

/** Promises 13, 27 to 34 and 37 to 39: the commits, their dependencies, rewinding, and the counts. */
public final class HistoryTest {
    private static final Check CHECK = new Check();
    private static final int ABSENT = OptimisticStore.ABSENT;

    public static void main(String[] args) throws ReflectiveOperationException {
        values();
        wrongNumbers();
        readDependency();
        otherDependencies();
        chains();
        sixtyLinks();
        serialFaults();
        serialFaultsOfTamperedStores();
        rewinding();
        rewindingWrongly();
        rewindAndRetry();
        averages();
        CHECK.finish("HistoryTest");
    }

    private static void values() {
        OptimisticStore x = new OptimisticStore();
        Check.run(x, "w0=1;w31=-999");
        Check.run(x, "r0");
        Check.run(x, "d0;w1=999");
        int[][] due = {{ABSENT, ABSENT, ABSENT}, {1, ABSENT, -999}, {1, ABSENT, -999}, {ABSENT, 999, -999}};
        for (int commit = 0; commit <= 3; commit++) {
            CHECK.same("valueAt 0", x.valueAt(0, commit), due[commit][0]);
            CHECK.same("valueAt 1", x.valueAt(1, commit), due[commit][1]);
            CHECK.same("valueAt 31", x.valueAt(31, commit), due[commit][2]);
        }
        CHECK.same("value 0", x.value(0), ABSENT);
        CHECK.same("value 31", x.value(31), -999);
        CHECK.same("writerOf a removed key", x.writerOf(0), 3);
        CHECK.same("writerOf 31", x.writerOf(31), 1);
        CHECK.same("writerOf 2", x.writerOf(2), 0);
        x.begin();
        x.begin();
        x.remove(4, 31);
        x.write(3, 2, 2);
        CHECK.same("a write alone is no writer", x.writerOf(2), 0);
        x.commit(4);
        x.commit(3);
        CHECK.same("transactionOf 1", x.transactionOf(1), 0);
        CHECK.same("transactionOf 4", x.transactionOf(4), 4);
        CHECK.same("transactionOf 5", x.transactionOf(5), 3);
        CHECK.same("a write of the same value is a write", Check.run(x, "w2=2"), x.writerOf(2));
    }

    private static void wrongNumbers() {
        OptimisticStore x = new OptimisticStore();
        Check.run(x, "w0=1");
        Check.run(x, "w0=1");
        for (int key : new int[] {-1, 32, Integer.MIN_VALUE, Integer.MAX_VALUE}) {
            CHECK.argument(x, "value", () -> x.value(key));
            CHECK.argument(x, "valueAt", () -> x.valueAt(key, 1));
            CHECK.argument(x, "valueAt, the key first", () -> x.valueAt(key, 3));
            CHECK.argument(x, "writerOf", () -> x.writerOf(key));
        }
        for (int commit : new int[] {-1, 3, 61, Integer.MIN_VALUE, Integer.MAX_VALUE}) {
            CHECK.index(x, "valueAt", () -> x.valueAt(0, commit));
            CHECK.index(x, "transactionOf", () -> x.transactionOf(commit));
            CHECK.index(x, "dependency earlier", () -> x.dependency(commit, 2));
            CHECK.index(x, "dependency later", () -> x.dependency(1, commit));
            CHECK.index(x, "dependency both", () -> x.dependency(commit, commit));
            CHECK.index(x, "rewind", () -> x.rewind(commit));
        }
        CHECK.index(x, "transactionOf 0", () -> x.transactionOf(0));
        CHECK.index(x, "dependency 0", () -> x.dependency(0, 1));
        CHECK.index(x, "dependency of 0", () -> x.dependency(1, 0));
        CHECK.argument(x, "dependency on itself", () -> x.dependency(1, 1));
        CHECK.argument(x, "dependency on a later one", () -> x.dependency(2, 1));
        for (int reason : new int[] {0, 7, -1, Integer.MIN_VALUE, Integer.MAX_VALUE}) {
            CHECK.argument(x, "aborts", () -> x.aborts(reason));
        }
    }

    private static void readDependency() {
        OptimisticStore x = new OptimisticStore();
        Check.run(x, "w0=1;w1=1");
        Check.run(x, "w0=2");
        Check.run(x, "r0");
        CHECK.same("the latest writer", x.dependency(2, 3), 1);
        CHECK.same("an earlier writer", x.dependency(1, 3), 0);
        Check.run(x, "r0;r1");
        CHECK.same("by another key", x.dependency(1, 4), 1);
        CHECK.same("by this key", x.dependency(2, 4), 1);
        CHECK.same("two readers", x.dependency(3, 4), 0);
        Check.run(x, "s0-31");
        CHECK.same("a sum records no key", x.dependency(2, 5), 0);
        Check.run(x, "w0=7;r0");
        CHECK.same("an own write is not recorded", x.dependency(2, 6), 2);
        CHECK.same("it overwrites what was read", x.dependency(3, 6), 4);
        Check.run(x, "a1+1");
        CHECK.same("an add reads and writes", x.dependency(1, 7), 3);
        CHECK.same("and overwrites", x.dependency(4, 7), 4);
        CHECK.same("and touches the sum", x.dependency(5, 7), 4);
        Check.run(x, "a1+1");
        CHECK.same("add after add", x.dependency(7, 8), 7);
        CHECK.same("add after add, not the latest writer", x.dependency(1, 8), 2);
    }

    private static void otherDependencies() {
        OptimisticStore x = new OptimisticStore();
        x.begin();
        x.scan(0, 2, 5, 10);
        x.commit(0);
        Check.run(x, "w2=9;w6=10");
        CHECK.same("not touched", x.dependency(1, 2), 0);
        Check.run(x, "w2=10");
        CHECK.same("touched after the write", x.dependency(1, 3), 4);
        Check.run(x, "w2=1");
        CHECK.same("touched before the write", x.dependency(1, 4), 4);
        Check.run(x, "d2");
        CHECK.same("touched by nothing now", x.dependency(1, 5), 0);
        CHECK.same("the same key", x.dependency(4, 5), 2);
        Check.run(x, "w31=1");
        Check.run(x, "d31");
        CHECK.same("key 31", x.dependency(6, 7), 2);
    }

    private static void chains() {
        OptimisticStore x = new OptimisticStore();
        Check.run(x, "w0=1");
        CHECK.same("one", x.longestChain(), 1);
        Check.run(x, "w1=1");
        CHECK.same("two that do not depend", x.longestChain(), 1);
        Check.run(x, "w2=1");
        Check.run(x, "r0");
        CHECK.same("a pair with others between", x.longestChain(), 2);
        Check.run(x, "r1;w9=1");
        CHECK.same("two pairs", x.longestChain(), 2);
        Check.run(x, "d9");
        CHECK.same("three", x.longestChain(), 3);
        Check.run(x, "w0=5");
        CHECK.same("three another way", x.longestChain(), 3);
        Check.run(x, "r9;r0");
        CHECK.same("four", x.longestChain(), 4);
        x.rewind(5);
        CHECK.same("after a rewind", x.longestChain(), 2);
        x.rewind(0);
        CHECK.same("none", x.longestChain(), 0);
    }

    private static void sixtyLinks() {
        OptimisticStore x = new OptimisticStore();
        for (int commit = 1; commit <= 60; commit++) {
            Check.run(x, commit % 2 == 0 ? "a0+1" : "w1=0");
        }
        CHECK.same("every second one", x.longestChain(), 30);
        CHECK.same("value", x.value(0), 30);
        CHECK.same("the last two adds", x.dependency(58, 60), 7);
        CHECK.same("serialFaults", x.serialFaults(), 0);
    }

    /** Validation keeps every fault out, so the promise shows as 0 where reads, scans, sums and adds mix. */
    private static void serialFaults() {
        for (int policy = 0; policy <= 1; policy++) {
            OptimisticStore x = new OptimisticStore();
            x.configure(policy, 1, 3);
            Check.run(x, "w0=5;w1=6;w2=-7");
            x.begin();
            x.begin();
            x.write(1, 1, 100);
            CHECK.same("scan", x.scan(1, 0, 2, 5), 2);
            CHECK.same("sum", x.sum(1, 0, 2), 98);
            CHECK.same("add", x.add(1, 1, 1), 101);
            x.remove(1, 1);
            CHECK.same("read", x.read(1, 1), ABSENT);
            CHECK.same("sum", x.sum(1, 0, 2), -2);
            x.write(2, 9, 1);
            CHECK.same("another key between", x.commit(2), 2);
            CHECK.same("commit", x.commit(1), 3);
            Check.run(x, "w0=1;w1=1;w2=1");
            CHECK.same("no faults", x.serialFaults(), 0);
        }
    }

    /**
     * No run of calls comes to a fault, so the stores that the commits found are changed from outside: row c is
     * the store directly before commit c + 1.
     */
    private static void serialFaultsOfTamperedStores() throws ReflectiveOperationException {
        OptimisticStore x = new OptimisticStore();
        Check.run(x, "r0;w9=1");
        Check.run(x, "s0-3");
        Check.run(x, "a0+1");
        Check.run(x, "w0=5;r0;d0;a0+6");
        x.scan(x.begin(), 0, 3, 5);
        x.commit(4);
        CHECK.same("no faults yet", x.serialFaults(), 0);
        int[][] stores = storesOf(x);
        stores[0][1] = 7;
        stores[0][9] = 2;
        stores[2][0] = 0;
        stores[3][0] = 900;
        stores[4][1] = 4;
        stores[4][4] = 9;
        CHECK.same("changes that no result shows", x.serialFaults(), 0);
        stores[2][0] = 999;
        CHECK.same("an add", x.serialFaults(), 1);
        stores[0][0] = 0;
        CHECK.same("a read", x.serialFaults(), 2);
        stores[1][3] = -1;
        CHECK.same("a sum", x.serialFaults(), 3);
        stores[4][3] = 5;
        CHECK.same("a scan", x.serialFaults(), 4);
        x.rewind(2);
        CHECK.same("only of the committed ones", x.serialFaults(), 2);
    }

    static int[][] storesOf(OptimisticStore x) throws ReflectiveOperationException {
        Field history = OptimisticStore.class.getDeclaredField("history");
        history.setAccessible(true);
        Field stores = history.getType().getDeclaredField("stores");
        stores.setAccessible(true);
        return (int[][]) stores.get(history.get(x));
    }

    private static void rewinding() {
        OptimisticStore x = new OptimisticStore();
        Check.run(x, "w0=1");
        Check.run(x, "w0=2;w1=2");
        Check.run(x, "d0");
        CHECK.same("nothing to take back", x.rewind(3), 0);
        CHECK.same("clock", x.clock(), 3);
        CHECK.same("rewind", x.rewind(1), 2);
        CHECK.same("clock", x.clock(), 1);
        CHECK.same("value 0", x.value(0), 1);
        CHECK.same("value 1", x.value(1), ABSENT);
        CHECK.same("writerOf 0", x.writerOf(0), 1);
        CHECK.same("writerOf 1", x.writerOf(1), 0);
        CHECK.same("state 0", x.state(0), 1);
        CHECK.same("state 1", x.state(1), 2);
        CHECK.same("reason 1", x.reason(1), 6);
        CHECK.same("reason 2", x.reason(2), 6);
        CHECK.same("aborts 6", x.aborts(6), 2);
        CHECK.same("transactionCount", x.transactionCount(), 3);
        CHECK.same("their operations stand", x.writtenKeys(1), 3);
        CHECK.index(x, "valueAt 2", () -> x.valueAt(0, 2));
        CHECK.index(x, "transactionOf 2", () -> x.transactionOf(2));
        CHECK.state(x, "commitOf 1", () -> x.commitOf(1));
        CHECK.same("a new commit 2", Check.run(x, "a0+9"), 2);
        CHECK.same("transactionOf", x.transactionOf(2), 3);
        CHECK.same("valueAt", x.valueAt(0, 2), 10);
        CHECK.same("no trace of the old commit", x.valueAt(1, 2), ABSENT);
        CHECK.same("rewind to the beginning", x.rewind(0), 2);
        CHECK.same("value", x.value(0), ABSENT);
        CHECK.same("clock", x.clock(), 0);
        CHECK.same("aborts", x.aborts(6), 4);
        CHECK.same("rewind of nothing", x.rewind(0), 0);
    }

    private static void rewindingWrongly() {
        OptimisticStore x = new OptimisticStore();
        Check.run(x, "w0=1");
        x.begin();
        CHECK.state(x, "rewind with an active one", () -> x.rewind(0));
        CHECK.state(x, "rewind of nothing with an active one", () -> x.rewind(1));
        CHECK.index(x, "the commit is looked at first", () -> x.rewind(2));
        CHECK.index(x, "rewind(-1)", () -> x.rewind(-1));
    }

    private static void rewindAndRetry() {
        OptimisticStore x = new OptimisticStore();
        x.configure(0, 0, 2);
        x.begin();
        x.abort(0);
        x.retry(0);
        x.commit(1);
        x.rewind(0);
        CHECK.same("reason", x.reason(1), 6);
        CHECK.same("retry of a rewound one", x.retry(1), 2);
        CHECK.same("attempt", x.attempt(2), 3);
        CHECK.same("ticket", x.ticketHolder(), 2);
        CHECK.state(x, "a second retry", () -> x.retry(1));
        CHECK.state(x, "the first one was retried already", () -> x.retry(0));
        // A rewound constraint: the store may violate it then, and nothing that leaves it so is committed.
        OptimisticStore y = new OptimisticStore();
        Check.run(y, "w0=5");
        y.addConstraint(0, 0, 0, 5);
        y.rewind(0);
        CHECK.same("an empty commit", Check.run(y, "r1"), OptimisticStore.ABORTED);
        CHECK.same("reason", y.reason(1), 4);
        CHECK.same("a commit that heals it", Check.run(y, "w0=6"), 1);
    }

    private static void averages() {
        OptimisticStore x = new OptimisticStore();
        x.begin();
        CHECK.refused(x, ArithmeticException.class, "averageAttempts", x::averageAttempts);
        CHECK.refused(x, ArithmeticException.class, "abortRate", x::abortRate);
        x.abort(0);
        CHECK.refused(x, ArithmeticException.class, "no commit", x::averageAttempts);
        CHECK.same("all aborted", x.abortRate(), 1.0f);
        x.retry(0);
        x.commit(1);
        CHECK.same("average 2", x.averageAttempts(), 2.0);
        CHECK.same("rate 1/2", x.abortRate(), 0.5f);
        Check.run(x, "r0");
        Check.run(x, "r0");
        x.begin();
        CHECK.same("average 4/3", x.averageAttempts(), 4.0 / 3.0);
        CHECK.same("rate 1/4", x.abortRate(), 0.25f);
        Check.run(x, "r0");
        x.begin();
        x.abort(6);
        CHECK.same("rate 2/6", x.abortRate(), 2.0f / 6.0f);
        x.abort(4);
        x.rewind(2);
        CHECK.same("average after a rewind", x.averageAttempts(), 1.5);
        CHECK.same("rate after a rewind", x.abortRate(), 5.0f / 7.0f);
        CHECK.same("aborts 5", x.aborts(5), 3);
        CHECK.same("aborts 6", x.aborts(6), 2);
        x.rewind(0);
        CHECK.refused(x, ArithmeticException.class, "none is committed now", x::averageAttempts);
        OptimisticStore y = new OptimisticStore();
        Check.run(y, "r0");
        CHECK.same("none aborted", y.abortRate(), 0.0f);
    }
}
