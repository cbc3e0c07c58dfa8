import java.util.function.Supplier;

/** The promises 5 to 10 and 21 to 24. */
final class OperationSentences {
    private static final String KEY_OUT = "Throws `IllegalArgumentException` if the key is out of range";
    private static final String NUMBER_OUT = "Throws `IllegalArgumentException` if a number is out of range";
    private static final int ABSENT = OptimisticStore.ABSENT;

    private final Sentences s;
    private final NumberSentences numbers;

    OperationSentences(Sentences s) {
        this.s = s;
        numbers = new NumberSentences(s);
    }

    void check() {
        s.promise(5);
        read();
        s.promise(6);
        scan();
        s.promise(7);
        sum();
        s.promise(8);
        write();
        s.promise(9);
        remove();
        s.promise(10);
        add();
        s.promise(21);
        operationCount();
        s.promise(22);
        recordedKeys();
        s.promise(23);
        predicateCount();
        s.promise(24);
        writtenKeys();
    }

    private void read() {
        s.says("Makes a read.");
        OptimisticStore x = Stores.active(1);
        x.read(0, 3);
        s.same("kept", kept(x), "1 8 0 0");
        numbers.keys(KEY_OUT, (y, key) -> y.read(0, key));
        s.says("Returns the value of the key in the view, ABSENT if it is absent.");
        OptimisticStore y = Stores.holding("w0=-999;w31=999;w1=0;w2=5");
        s.same("-999", y.read(0, 0), -999);
        s.same("999", y.read(0, 31), 999);
        s.same("0", y.read(0, 1), 0);
        s.same("absent", y.read(0, 30), ABSENT);
        y.remove(0, 2);
        s.same("removed in the view", y.read(0, 2), ABSENT);
        y.write(0, 30, 6);
        s.same("written in the view", y.read(0, 30), 6);
        common((z, number) -> z.read(number, 31));
    }

    /** Operations, recorded keys, predicates and written keys of transaction 0. */
    private static String kept(OptimisticStore x) {
        return x.operationCount(0) + " " + x.recordedKeys(0) + " " + x.predicateCount(0) + " " + x.writtenKeys(0);
    }

    /** What the document says of all six operations alike. */
    private void common(NumberSentences.ByNumber call) {
        numbers.transactions(Stores::activeAfter, call);
        s.says("Throws `IllegalStateException` if the transaction is not active or has 24 operations");
        s.taken("an active one", Stores::oneOfEach, x -> call.on(x, 0));
        s.refused("a committed one", Sentences.STATE, Stores::oneOfEach, x -> call.on(x, 1));
        s.refused("an aborted one", Sentences.STATE, Stores::oneOfEach, x -> call.on(x, 2));
        s.taken("with no operation", () -> Stores.operations(0), x -> call.on(x, 0));
        s.taken("with 23 operations", () -> Stores.operations(23), x -> call.on(x, 0));
        s.refused("with 24 operations", Sentences.STATE, () -> Stores.operations(24), x -> call.on(x, 0));
        OptimisticStore own = Stores.active(1);
        for (int count = 0; count < 24; count++) {
            call.on(own, 0);
        }
        s.same("24 of its own kind", own.operationCount(0), 24);
        s.same("a 25th", Check.outcome(() -> {
            call.on(own, 0);
            return "no exception";
        }), "throws.IllegalStateException");
    }

    private void scan() {
        s.says("Makes a scan: counts the keys of a range that are present in the view with at least a certain value.");
        OptimisticStore x = Stores.holding("w4=4;w5=5;w6=6;w7=-999;w8=999");
        s.same("at the value and above it", x.scan(0, 4, 6, 5), 2);
        s.same("kept", kept(x), "1 0 1 0");
        s.same("the ends of the range", x.scan(0, 5, 7, -999), 3);
        x.write(0, 4, 5);
        x.remove(0, 6);
        s.same("in the view", x.scan(0, 4, 6, 5), 2);
        ranges((y, low) -> y.scan(0, low, 31, 0), (y, high) -> y.scan(0, 0, high, 0), (y, low, high) ->
                y.scan(0, low, high, 0));
        s.says("`least`: the least value, -999 to 999");
        s.same("-999", x.scan(0, 0, 31, -999), 4);
        s.same("-998", x.scan(0, 0, 31, -998), 3);
        s.same("998", x.scan(0, 0, 31, 998), 1);
        s.same("999", x.scan(0, 0, 31, 999), 1);
        s.says("Returns the number of keys.");
        s.same("none", x.scan(0, 9, 31, -999), 0);
        OptimisticStore full = Stores.committed(32);
        int number = full.begin();
        s.same("all", full.scan(number, 0, 31, -999), 32);
        s.same("one", full.scan(number, 31, 31, 31), 1);
        s.same("one below the value", full.scan(number, 31, 31, 32), 0);
        s.says(NUMBER_OUT);
        wrongRanges((y, low) -> y.scan(0, low, 31, 0), (y, high) -> y.scan(0, 0, high, 0), (y, low, high) ->
                y.scan(0, low, high, 0));
        wrongValues((y, least) -> y.scan(0, 0, 31, least));
        common((z, each) -> z.scan(each, 0, 31, 0));
    }

    private interface ByRange {
        void on(OptimisticStore x, int low, int high);
    }

    private void ranges(NumberSentences.ByNumber byLow, NumberSentences.ByNumber byHigh, ByRange byBoth) {
        Supplier<OptimisticStore> one = () -> Stores.active(1);
        s.says("`low`: the first key, 0 to 31");
        s.taken("low 0", one, x -> byLow.on(x, 0));
        s.taken("low 31", one, x -> byLow.on(x, 31));
        s.says("`high`: the last key, low to 31");
        s.taken("high 0", one, x -> byHigh.on(x, 0));
        s.taken("high 31", one, x -> byHigh.on(x, 31));
        for (int key = 0; key < 32; key++) {
            int each = key;
            s.taken("high as low, " + key, one, x -> byBoth.on(x, each, each));
        }
    }

    private void wrongRanges(NumberSentences.ByNumber byLow, NumberSentences.ByNumber byHigh, ByRange byBoth) {
        Supplier<OptimisticStore> one = () -> Stores.active(1);
        numbers.wrongKeys("low", byLow);
        numbers.wrongKeys("high", byHigh);
        numbers.wrongKeys("low and high", (x, key) -> byBoth.on(x, key, key));
        for (int low = 1; low < 32; low++) {
            int each = low;
            s.refused("high one below low " + low, Sentences.ARGUMENT, one, x -> byBoth.on(x, each, each - 1));
        }
        s.refused("high 0, low 31", Sentences.ARGUMENT, one, x -> byBoth.on(x, 31, 0));
        s.refused("the greatest range", Sentences.ARGUMENT, one,
                x -> byBoth.on(x, Integer.MIN_VALUE, Integer.MAX_VALUE));
        s.refused("the range from -1 to 32", Sentences.ARGUMENT, one, x -> byBoth.on(x, -1, 32));
    }

    private void wrongValues(NumberSentences.ByNumber call) {
        for (int value : new int[] {-1000, 1000, Integer.MIN_VALUE, Integer.MAX_VALUE}) {
            s.refused("number " + value, Sentences.ARGUMENT, () -> Stores.active(1), x -> call.on(x, value));
        }
    }

    private void sum() {
        s.says("Makes a sum: adds up the values of all keys of a range that are present in the view.");
        OptimisticStore x = Stores.holding("w4=4;w5=50;w6=600;w7=-1");
        s.same("a part", x.sum(0, 5, 6), 650);
        s.same("kept", kept(x), "1 0 1 0");
        x.remove(0, 5);
        x.write(0, 6, 6);
        s.same("in the view", x.sum(0, 4, 7), 9);
        ranges((y, low) -> y.sum(0, low, 31), (y, high) -> y.sum(0, 0, high), (y, low, high) -> y.sum(0, low, high));
        s.says("Returns the sum.");
        s.same("of none", x.sum(0, 8, 31), 0);
        s.same("of one", x.sum(0, 7, 7), -1);
        s.same("the greatest", sumOfAll(999), 32 * 999);
        s.same("the least", sumOfAll(-999), 32 * -999);
        s.says(NUMBER_OUT);
        wrongRanges((y, low) -> y.sum(0, low, 31), (y, high) -> y.sum(0, 0, high), (y, low, high) ->
                y.sum(0, low, high));
        common((z, number) -> z.sum(number, 0, 31));
    }

    private static int sumOfAll(int value) {
        OptimisticStore x = Stores.active(2);
        for (int key = 0; key < 16; key++) {
            x.write(0, key, value);
            x.write(1, key + 16, value);
        }
        x.commit(0);
        return x.sum(1, 0, 31);
    }

    private void write() {
        s.says("Makes a write.");
        OptimisticStore x = Stores.active(1);
        x.write(0, 3, 7);
        s.same("kept", kept(x), "1 0 0 8");
        s.same("in the view", x.read(0, 3), 7);
        s.same("not in the store", x.value(3), ABSENT);
        numbers.keys(NUMBER_OUT, (y, key) -> y.write(0, key, 0));
        s.says("`value`: the value, -999 to 999");
        for (int value : new int[] {-999, -998, 0, 998, 999}) {
            OptimisticStore y = Stores.active(1);
            y.write(0, 0, value);
            y.commit(0);
            s.same("value " + value, y.value(0), value);
        }
        s.says(NUMBER_OUT);
        wrongValues((y, value) -> y.write(0, 0, value));
        common((z, number) -> z.write(number, 31, 1));
    }

    private void remove() {
        s.says("Makes a removal.");
        OptimisticStore x = Stores.holding("w3=3");
        x.remove(0, 3);
        s.same("kept", kept(x), "1 0 0 8");
        s.same("in the view", x.read(0, 3), ABSENT);
        s.same("not in the store", x.value(3), 3);
        x.commit(0);
        s.same("now in the store", x.value(3), ABSENT);
        s.says("The key need not be present.");
        OptimisticStore y = Stores.active(1);
        y.remove(0, 31);
        y.remove(0, 31);
        s.same("twice an absent key", kept(y), "2 0 0 " + (1 << 31));
        s.same("commit", y.commit(0) + " " + y.value(31) + " " + y.writerOf(31), "1 " + ABSENT + " 1");
        numbers.keys(KEY_OUT, (z, key) -> z.remove(0, key));
        common((z, number) -> z.remove(number, 31));
    }

    private void add() {
        s.says("Makes an add: writes the value of the key in the view, where an absent key counts as 0, plus a"
                + " number.");
        OptimisticStore x = Stores.holding("w3=3");
        x.add(0, 3, 4);
        s.same("kept", kept(x), "1 8 0 8");
        s.same("in the view", x.read(0, 3), 7);
        x.add(0, 3, 4);
        s.same("the view's value counts", x.read(0, 3), 11);
        x.add(0, 4, -5);
        s.same("an absent key", x.read(0, 4), -5);
        x.remove(0, 3);
        x.add(0, 3, 1);
        s.same("a removed key", x.read(0, 3), 1);
        x.add(0, 5, 0);
        x.commit(0);
        s.same("plus 0 makes an absent key present", x.value(5), 0);
        numbers.keys(NUMBER_OUT, (y, key) -> y.add(0, key, 0));
        s.says("`difference`: the number, -999 to 999");
        for (int difference : new int[] {-999, 0, 999}) {
            s.same("difference " + difference, Stores.active(1).add(0, 0, difference), difference);
        }
        s.same("from -999 to 0", Stores.holding("w1=-999").add(0, 1, 999), 0);
        s.same("from 999 to 0", Stores.holding("w1=999").add(0, 1, -999), 0);
        s.says("Returns the new value.");
        s.same("the new value", Stores.holding("w1=40").add(0, 1, 2), 42);
        s.says(NUMBER_OUT);
        wrongValues((y, difference) -> y.add(0, 0, difference));
        common((z, number) -> z.add(number, 31, 1));
        s.says("Throws `ArithmeticException` if the new value would not be from -999 to 999");
        s.same("998 + 1", Stores.holding("w1=998").add(0, 1, 1), 999);
        s.refused("999 + 1", Sentences.ARITHMETIC, () -> Stores.holding("w1=999"), y -> y.add(0, 1, 1));
        s.refused("999 + 999", Sentences.ARITHMETIC, () -> Stores.holding("w1=999"), y -> y.add(0, 1, 999));
        s.same("-998 - 1", Stores.holding("w1=-998").add(0, 1, -1), -999);
        s.refused("-999 - 1", Sentences.ARITHMETIC, () -> Stores.holding("w1=-999"), y -> y.add(0, 1, -1));
        s.refused("-999 - 999", Sentences.ARITHMETIC, () -> Stores.holding("w1=-999"), y -> y.add(0, 1, -999));
        s.refused("1 + 999", Sentences.ARITHMETIC, () -> Stores.holding("w1=1"), y -> y.add(0, 1, 999));
        s.refused("-1 - 999, which would be ABSENT", Sentences.ARITHMETIC, () -> Stores.holding("w1=-1"),
                y -> y.add(0, 1, -999));
        s.refused("999 in the view + 1", Sentences.ARITHMETIC, () -> {
            OptimisticStore y = Stores.active(1);
            y.write(0, 1, 999);
            return y;
        }, y -> y.add(0, 1, 1));
    }

    private void operationCount() {
        s.says("Returns the number of operations of a transaction.");
        OptimisticStore x = Stores.active(2);
        x.read(0, 0);
        x.read(0, 0);
        x.add(1, 0, 1);
        s.same("of each its own", x.operationCount(0) + " " + x.operationCount(1), "2 1");
        s.same("a refused one", Check.outcome(() -> x.read(0, 32)) + x.operationCount(0),
                "throws.IllegalArgumentException2");
        numbers.transactions(Stores::activeAfter, OptimisticStore::operationCount);
        s.says("Returns 0 to 24.");
        s.same("none", Stores.active(1).operationCount(0), 0);
        OptimisticStore full = Stores.operations(24);
        s.same("all", full.operationCount(0), 24);
        full.commit(0);
        s.same("all of a committed one", full.operationCount(0), 24);
    }

    private void recordedKeys() {
        s.says("Returns the keys that a transaction has recorded.");
        OptimisticStore x = Stores.active(2);
        x.read(0, 4);
        x.add(0, 5, 1);
        x.scan(0, 6, 7, 0);
        x.sum(0, 8, 9);
        x.write(0, 10, 1);
        x.read(0, 10);
        x.remove(0, 11);
        s.same("by a read and an add alone", x.recordedKeys(0), 1 << 4 | 1 << 5);
        s.same("of each its own", x.recordedKeys(1), 0);
        numbers.transactions(Stores::activeAfter, OptimisticStore::recordedKeys);
        s.says("Returns the set of keys, bit k for key k.");
        s.same("none", Stores.active(1).recordedKeys(0), 0);
        for (int key = 0; key < 32; key++) {
            OptimisticStore y = Stores.active(1);
            y.read(0, key);
            s.same("key " + key, y.recordedKeys(0), 1 << key);
        }
        s.same("key 31 is the sign", 1 << 31, Integer.MIN_VALUE);
    }

    private void predicateCount() {
        s.says("Returns the number of predicates that a transaction has recorded; equal ones count, too.");
        OptimisticStore x = Stores.active(2);
        x.scan(0, 0, 5, -999);
        x.scan(0, 0, 5, -999);
        x.sum(0, 0, 5);
        s.same("equal ones", x.predicateCount(0), 3);
        x.read(0, 0);
        x.write(0, 0, 0);
        x.remove(0, 0);
        x.add(0, 0, 0);
        s.same("no other operation", x.predicateCount(0), 3);
        s.same("of each its own", x.predicateCount(1), 0);
        numbers.transactions(Stores::activeAfter, OptimisticStore::predicateCount);
        s.says("Returns the number.");
        s.same("none", Stores.active(1).predicateCount(0), 0);
        OptimisticStore full = Stores.active(1);
        for (int count = 0; count < 12; count++) {
            full.sum(0, 0, 0);
            full.scan(0, 0, 0, 0);
        }
        s.same("24", full.predicateCount(0), 24);
        full.commit(0);
        s.same("24 of a committed one", full.predicateCount(0), 24);
    }

    private void writtenKeys() {
        s.says("Returns the keys of which a transaction has a write.");
        OptimisticStore x = Stores.active(2);
        x.write(0, 4, 1);
        x.remove(0, 5);
        x.add(0, 6, 1);
        x.read(0, 7);
        x.sum(0, 8, 9);
        x.scan(0, 10, 11, 0);
        s.same("by a write, a removal and an add", x.writtenKeys(0), 1 << 4 | 1 << 5 | 1 << 6);
        s.same("of each its own", x.writtenKeys(1), 0);
        numbers.transactions(Stores::activeAfter, OptimisticStore::writtenKeys);
        s.says("Returns the set of keys, bit k for key k.");
        s.same("none", Stores.active(1).writtenKeys(0), 0);
        for (int key = 0; key < 32; key++) {
            OptimisticStore y = Stores.active(1);
            y.write(0, key, 0);
            s.same("key " + key, y.writtenKeys(0), 1 << key);
        }
    }
}
