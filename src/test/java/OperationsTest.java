/** Promises 5 to 10 and 21 to 24: the operations, and what a transaction keeps of them. */
public final class OperationsTest {
    private static final Check CHECK = new Check();
    private static final int ABSENT = OptimisticStore.ABSENT;

    public static void main(String[] args) {
        reading();
        scanning();
        summing();
        writingAndRemoving();
        adding();
        addingTooMuch();
        wrongNumbers();
        twentyFourOperations();
        endedTransactions();
        records();
        keyThirtyOne();
        CHECK.finish("OperationsTest");
    }

    private static OptimisticStore filled() {
        OptimisticStore x = new OptimisticStore();
        CHECK.same("the filling", Check.run(x, "w0=-999;w1=0;w2=5;w4=999;w31=7"), 1);
        return x;
    }

    private static void reading() {
        OptimisticStore x = filled();
        int t = x.begin();
        CHECK.same("read 0", x.read(t, 0), -999);
        CHECK.same("read 3", x.read(t, 3), ABSENT);
        CHECK.same("read 31", x.read(t, 31), 7);
        x.write(t, 3, 33);
        CHECK.same("read of an own write", x.read(t, 3), 33);
        x.remove(t, 31);
        CHECK.same("read of an own removal", x.read(t, 31), ABSENT);
        CHECK.same("the store", x.value(31), 7);
        CHECK.same("operationCount", x.operationCount(t), 7);
        int other = x.begin();
        CHECK.same("another does not see the write", x.read(other, 3), ABSENT);
        Check.run(x, "w5=55");
        CHECK.same("a commit is seen at once", x.read(t, 5), 55);
    }

    private static void scanning() {
        OptimisticStore x = filled();
        int t = x.begin();
        CHECK.same("all", x.scan(t, 0, 31, -999), 5);
        CHECK.same("at least 0", x.scan(t, 0, 31, 0), 4);
        CHECK.same("at least 999", x.scan(t, 0, 31, 999), 1);
        CHECK.same("a border", x.scan(t, 2, 4, 5), 2);
        CHECK.same("above the border", x.scan(t, 2, 4, 6), 1);
        CHECK.same("one key", x.scan(t, 31, 31, 7), 1);
        CHECK.same("one absent key", x.scan(t, 3, 3, -999), 0);
        x.write(t, 3, 6);
        x.remove(t, 4);
        CHECK.same("in the view", x.scan(t, 2, 4, 5), 2);
        CHECK.same("predicates", x.predicateCount(t), 8);
        CHECK.same("no key is recorded", x.recordedKeys(t), 0);
    }

    private static void summing() {
        OptimisticStore x = filled();
        int t = x.begin();
        CHECK.same("all", x.sum(t, 0, 31), 12);
        CHECK.same("some", x.sum(t, 1, 4), 1004);
        CHECK.same("one", x.sum(t, 0, 0), -999);
        CHECK.same("none", x.sum(t, 5, 30), 0);
        x.remove(t, 0);
        x.write(t, 30, -1);
        CHECK.same("in the view", x.sum(t, 0, 31), 1010);
        CHECK.same("predicates", x.predicateCount(t), 5);
        CHECK.same("equal ones count", x.sum(t, 0, 31) + x.predicateCount(t), 1016);
        CHECK.same("no key is recorded", x.recordedKeys(t), 0);
    }

    private static void writingAndRemoving() {
        OptimisticStore x = filled();
        int t = x.begin();
        x.write(t, 0, 999);
        x.write(t, 31, -999);
        x.write(t, 0, 1);
        x.remove(t, 2);
        x.remove(t, 3);
        x.write(t, 6, 6);
        x.remove(t, 6);
        x.remove(t, 7);
        x.write(t, 7, 70);
        CHECK.same("writtenKeys", x.writtenKeys(t), 1 << 31 | 1 | 1 << 2 | 1 << 3 | 1 << 6 | 1 << 7);
        CHECK.same("operationCount", x.operationCount(t), 9);
        CHECK.same("predicateCount", x.predicateCount(t), 0);
        CHECK.same("recordedKeys", x.recordedKeys(t), 0);
        CHECK.same("the store before", x.value(0), -999);
        CHECK.same("commit", x.commit(t), 2);
        int[] due = {1, 0, ABSENT, ABSENT, 999, ABSENT, ABSENT, 70};
        for (int key = 0; key < due.length; key++) {
            CHECK.same("value " + key, x.value(key), due[key]);
        }
        CHECK.same("value 31", x.value(31), -999);
    }

    private static void adding() {
        OptimisticStore x = filled();
        int t = x.begin();
        CHECK.same("add to a value", x.add(t, 2, 4), 9);
        CHECK.same("add again", x.add(t, 2, -10), -1);
        CHECK.same("add to an absent key", x.add(t, 3, -999), -999);
        CHECK.same("add 0 to an absent key", x.add(t, 8, 0), 0);
        CHECK.same("read", x.read(t, 3), -999);
        CHECK.same("an add is one operation", x.operationCount(t), 5);
        CHECK.same("an add records", x.recordedKeys(t), 1 << 2 | 1 << 3 | 1 << 8);
        CHECK.same("an add writes", x.writtenKeys(t), 1 << 2 | 1 << 3 | 1 << 8);
        x.write(t, 4, 1);
        CHECK.same("add to an own write", x.add(t, 4, 998), 999);
        CHECK.same("which records nothing", x.recordedKeys(t), 1 << 2 | 1 << 3 | 1 << 8);
        CHECK.same("commit", x.commit(t), 2);
        CHECK.same("value 2", x.value(2), -1);
        CHECK.same("value 8", x.value(8), 0);
    }

    private static void addingTooMuch() {
        OptimisticStore x = filled();
        int t = x.begin();
        CHECK.refused(x, ArithmeticException.class, "999 + 1", () -> x.add(t, 4, 1));
        CHECK.refused(x, ArithmeticException.class, "-999 - 1", () -> x.add(t, 0, -1));
        CHECK.refused(x, ArithmeticException.class, "999 + 999", () -> x.add(t, 4, 999));
        CHECK.same("999 - 999", x.add(t, 4, -999), 0);
        CHECK.same("-999 + 999", x.add(t, 0, 999), 0);
        CHECK.same("0 + 999", x.add(t, 0, 999), 999);
        for (int count = 3; count < 24; count++) {
            x.read(t, 0);
        }
        CHECK.state(x, "the state comes before the sum", () -> x.add(t, 0, 999));
        CHECK.argument(x, "the numbers come before both", () -> x.add(t, 0, 1000));
    }

    private static void wrongNumbers() {
        OptimisticStore x = filled();
        int active = x.begin();
        for (int t : new int[] {0, active}) {
            for (int key : new int[] {-1, 32, Integer.MIN_VALUE, Integer.MAX_VALUE}) {
                CHECK.argument(x, "read", () -> x.read(t, key));
                CHECK.argument(x, "scan low", () -> x.scan(t, key, 31, 0));
                CHECK.argument(x, "scan high", () -> x.scan(t, 0, key, 0));
                CHECK.argument(x, "scan both", () -> x.scan(t, key, key, 0));
                CHECK.argument(x, "sum low", () -> x.sum(t, key, 31));
                CHECK.argument(x, "sum high", () -> x.sum(t, 0, key));
                CHECK.argument(x, "sum both", () -> x.sum(t, key, key));
                CHECK.argument(x, "write", () -> x.write(t, key, 0));
                CHECK.argument(x, "remove", () -> x.remove(t, key));
                CHECK.argument(x, "add", () -> x.add(t, key, 0));
            }
            for (int number : new int[] {-1000, 1000, Integer.MIN_VALUE, Integer.MAX_VALUE}) {
                CHECK.argument(x, "scan least", () -> x.scan(t, 0, 31, number));
                CHECK.argument(x, "write value", () -> x.write(t, 0, number));
                CHECK.argument(x, "add difference", () -> x.add(t, 0, number));
            }
            CHECK.argument(x, "scan high below low", () -> x.scan(t, 3, 2, 0));
            CHECK.argument(x, "sum high below low", () -> x.sum(t, 31, 30));
        }
        x.add(active, 20, -999);
        x.add(active, 21, 999);
        CHECK.same("extreme ranges", x.scan(active, 0, 31, 999) + x.scan(active, 31, 31, -999), 3);
    }

    private static void twentyFourOperations() {
        for (int kind = 0; kind < 6; kind++) {
            OptimisticStore x = new OptimisticStore();
            x.begin();
            for (int count = 0; count < 24; count++) {
                CHECK.same("operationCount", x.operationCount(0), count);
                operate(x, kind);
            }
            CHECK.same("operationCount", x.operationCount(0), 24);
            CHECK.state(x, "a 25th read", () -> x.read(0, 0));
            CHECK.state(x, "a 25th scan", () -> x.scan(0, 0, 31, 0));
            CHECK.state(x, "a 25th sum", () -> x.sum(0, 0, 31));
            CHECK.state(x, "a 25th write", () -> x.write(0, 0, 0));
            CHECK.state(x, "a 25th removal", () -> x.remove(0, 0));
            CHECK.state(x, "a 25th add", () -> x.add(0, 0, 0));
            CHECK.argument(x, "the key comes first", () -> x.read(0, 32));
            CHECK.same("predicateCount", x.predicateCount(0), kind == 1 || kind == 2 ? 24 : 0);
            CHECK.same("recordedKeys", x.recordedKeys(0), kind == 0 || kind == 5 ? 1 : 0);
            CHECK.same("writtenKeys", x.writtenKeys(0), kind >= 3 ? 1 : 0);
            CHECK.same("commit", x.commit(0), 1);
            CHECK.same("it can still be told", x.operationCount(0), 24);
        }
    }

    private static void operate(OptimisticStore x, int kind) {
        switch (kind) {
            case 0 -> x.read(0, 0);
            case 1 -> x.scan(0, 0, 0, 0);
            case 2 -> x.sum(0, 0, 0);
            case 3 -> x.write(0, 0, 1);
            case 4 -> x.remove(0, 0);
            default -> x.add(0, 0, 1);
        }
    }

    private static void endedTransactions() {
        OptimisticStore x = new OptimisticStore();
        x.begin();
        x.begin();
        x.read(0, 9);
        x.write(1, 8, 1);
        x.sum(1, 0, 0);
        x.abort(0);
        x.commit(1);
        for (int t = 0; t < 2; t++) {
            int number = t;
            CHECK.state(x, "read", () -> x.read(number, 0));
            CHECK.state(x, "scan", () -> x.scan(number, 0, 31, 0));
            CHECK.state(x, "sum", () -> x.sum(number, 0, 31));
            CHECK.state(x, "write", () -> x.write(number, 0, 0));
            CHECK.state(x, "remove", () -> x.remove(number, 0));
            CHECK.state(x, "add", () -> x.add(number, 0, 0));
        }
        CHECK.same("what the aborted one recorded", x.recordedKeys(0), 1 << 9);
        CHECK.same("what the committed one wrote", x.writtenKeys(1), 1 << 8);
        CHECK.same("the committed one's predicates", x.predicateCount(1), 1);
    }

    private static void records() {
        OptimisticStore x = new OptimisticStore();
        x.begin();
        x.write(0, 1, 1);
        x.read(0, 1);
        CHECK.same("an own write is not recorded", x.recordedKeys(0), 0);
        x.read(0, 2);
        x.write(0, 2, 2);
        CHECK.same("a record stays", x.recordedKeys(0), 1 << 2);
        x.remove(0, 3);
        x.read(0, 3);
        CHECK.same("an own removal is not recorded", x.recordedKeys(0), 1 << 2);
        // The record of key 4 keeps its earliest clock, so the commit between two reads makes it stale.
        x.read(0, 4);
        Check.run(x, "w4=4");
        CHECK.same("the second read sees the commit", x.read(0, 4), 4);
        CHECK.same("stale by the first record", x.isStale(0), true);
        x.begin();
        x.read(2, 4);
        CHECK.same("a record after the commit is fresh", x.isStale(2), false);
    }

    private static void keyThirtyOne() {
        OptimisticStore x = new OptimisticStore();
        x.begin();
        x.read(0, 31);
        x.write(0, 31, 1);
        CHECK.same("recorded bit 31", x.recordedKeys(0), Integer.MIN_VALUE);
        CHECK.same("written bit 31", x.writtenKeys(0), Integer.MIN_VALUE);
        x.read(0, 0);
        CHECK.same("bits 0 and 31", x.recordedKeys(0), Integer.MIN_VALUE + 1);
    }
}
