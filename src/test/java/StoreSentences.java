/** What the description says of the store, the transactions and their operations. */
final class StoreSentences {
    private static final int ABSENT = OptimisticStore.ABSENT;
    private static final int ABORTED = OptimisticStore.ABORTED;

    private final Sentences s;

    StoreSentences(Sentences s) {
        this.s = s;
    }

    void check() {
        s.section("Description");
        keys();
        values();
        changedByCommitsOnly();
        commits();
        clock();
        transactions();
        states();
        operationList();
        view();
        operations();
        records();
        predicates();
        adds();
        laterWrites();
        constants();
    }

    private void keys() {
        s.says("There are 32 keys, numbered from 0.");
        OptimisticStore x = Stores.active(2);
        for (int key = 0; key < 16; key++) {
            x.write(0, key, key + 1);
            x.write(1, key + 16, key + 17);
        }
        s.same("all bits", x.writtenKeys(0) ^ x.writtenKeys(1), -1);
        x.commit(0);
        x.commit(1);
        for (int key = 0; key < 32; key++) {
            s.same("each key has a value of its own", x.value(key), key + 1);
        }
        s.refused("key -1", Sentences.ARGUMENT, () -> Stores.active(1), y -> y.write(0, -1, 1));
        s.refused("key 32, which would wrap to bit 0", Sentences.ARGUMENT, () -> Stores.active(1),
                y -> y.write(0, 32, 1));
    }

    private void values() {
        s.says("A key is absent or has a value from -999 to 999; at first all keys are absent.");
        OptimisticStore x = Stores.empty();
        for (int key = 0; key < 32; key++) {
            s.same("value " + key + " at first", x.value(key), ABSENT);
        }
        Check.run(x, "w0=-999;w31=999;w1=0");
        s.same("the least value", x.value(0), -999);
        s.same("the greatest value", x.value(31), 999);
        s.same("0 is a value", x.value(1), 0);
        Check.run(x, "d0;d31");
        s.same("absent again", x.value(0) + x.value(31), 2 * ABSENT);
        s.refused("1000", Sentences.ARGUMENT, () -> Stores.active(1), y -> y.write(0, 0, 1000));
        s.refused("-1000, which is ABSENT", Sentences.ARGUMENT, () -> Stores.active(1), y -> y.write(0, 0, -1000));
    }

    private void changedByCommitsOnly() {
        s.says("The store is changed by commits only.");
        OptimisticStore x = Stores.ticket(0, 0);
        Check.run(x, "w0=1");
        x.read(1, 2);
        int number = x.begin();
        x.write(number, 0, 7);
        x.remove(number, 0);
        x.add(number, 0, 3);
        x.write(number, 2, 9);
        s.same("after operations", x.value(0) + " " + x.value(2), 1 + " " + ABSENT);
        s.same("a blocked commit", x.commit(number), OptimisticStore.BLOCKED);
        s.same("after it", x.value(0) + " " + x.value(2), 1 + " " + ABSENT);
        x.abort(number);
        s.same("after an abort", x.value(0) + " " + x.value(2), 1 + " " + ABSENT);
        number = x.begin();
        x.add(number, 0, 5);
        Check.run(x, "w0=2");
        s.same("an aborted commit", x.commit(number), ABORTED);
        s.same("after it", x.value(0), 2);
    }

    private void commits() {
        s.says("Commits are numbered from 1 in the order in which they happen; there are at most 60.");
        OptimisticStore x = Stores.active(3);
        s.same("the first", x.commit(2), 1);
        s.same("the second", x.commit(0), 2);
        s.same("the third", x.commit(1), 3);
        OptimisticStore y = Stores.committed(59);
        s.same("the 60th", Check.run(y, "w0=1"), 60);
        y.begin();
        s.same("a 61st", Check.outcome(() -> y.commit(60)), "throws.IllegalStateException");
        y.abort(60);
        y.rewind(59);
        s.same("the 60th again, after a rewind", Check.run(y, "w0=1"), 60);
    }

    private void clock() {
        s.says("The clock is the number of the latest commit, 0 at first.");
        OptimisticStore x = Stores.active(1);
        s.same("at first", x.clock(), 0);
        x.commit(0);
        s.same("after a commit without writes", x.clock(), 1);
        x.abort(x.begin());
        s.same("after an abort", x.clock(), 1);
        s.same("after 60 commits", Stores.committed(60).clock(), 60);
    }

    private void transactions() {
        s.says("Transactions are numbered from 0 in the order in which they begin; there are at most 80, of which at"
                + " most 6 are active at the same time.");
        OptimisticStore x = Stores.empty();
        for (int number = 0; number < 6; number++) {
            s.same("begin", x.begin(), number);
        }
        s.same("a seventh active one", Check.outcome(x::begin), "throws.IllegalStateException");
        x.abort(5);
        s.same("by a retry", x.retry(5), 6);
        x.commit(0);
        s.same("by a script", Check.run(x, "r1") + " " + x.transactionOf(2), "2 7");
        OptimisticStore y = Stores.aborted(79);
        s.same("the 80th", y.begin(), 79);
        y.abort(79);
        s.same("an 81st", Check.outcome(y::begin), "throws.IllegalStateException");
        s.same("an 81st by a retry", Check.outcome(() -> y.retry(0)), "throws.IllegalStateException");
        s.same("an 81st by a script", Check.outcome(() -> Check.run(y, "r1")), "throws.IllegalStateException");
        s.same("the 80th by a script", Check.run(Stores.aborted(79), "r1"), 1);
        s.same("the 80th by a retry", Stores.aborted(79).retry(78), 79);
    }

    private void states() {
        s.says("A transaction is active (0), committed (1) or aborted (2).");
        OptimisticStore x = Stores.oneOfEach();
        s.same("active", x.state(0), 0);
        s.same("committed", x.state(1), 1);
        s.same("aborted", x.state(2), 2);
    }

    private void operationList() {
        s.says("It has a list of at most 24 operations, in the order in which they are made, and a set of writes, at"
                + " most one for each key: a new value, or the removal of the key.");
        OptimisticStore x = Stores.active(1);
        for (int count = 0; count < 12; count++) {
            x.write(0, 3, count);
            x.remove(0, 3);
        }
        s.same("24 operations", x.operationCount(0), 24);
        s.same("one write", x.writtenKeys(0), 1 << 3);
        s.same("a 25th", Check.outcome(() -> x.read(0, 3)), "throws.IllegalStateException");
        x.commit(0);
        s.same("the last one, the removal", x.value(3), ABSENT);
        OptimisticStore y = Stores.operations(23);
        s.same("the 24th", y.add(0, 3, 4), 4);
        s.same("a 25th", Check.outcome(() -> y.add(0, 3, 1)), "throws.IllegalStateException");
        y.commit(0);
        s.same("the last value", y.value(3), 4);
    }

    private void view() {
        s.says("The view of a transaction is the store with its writes applied.");
        OptimisticStore x = Stores.holding("w0=1;w1=2;w2=3");
        x.write(0, 0, 10);
        x.remove(0, 1);
        x.write(0, 3, 30);
        s.same("a new value", x.read(0, 0), 10);
        s.same("a removal", x.read(0, 1), ABSENT);
        s.same("the store's value", x.read(0, 2), 3);
        s.same("a new key", x.read(0, 3), 30);
        s.same("in a sum", x.sum(0, 0, 3), 43);
        s.same("in a scan", x.scan(0, 0, 3, 3), 3);
        s.same("in an add", x.add(0, 0, 1), 11);
        x.begin();
        s.same("not in another's", x.sum(2, 0, 3), 6);
        Check.run(x, "w2=100");
        s.same("the store as it is now", x.read(0, 2), 100);
    }

    private void operations() {
        s.says("There are these operations: read, scan, sum, write, remove and add.");
        OptimisticStore x = Stores.active(1);
        x.read(0, 0);
        x.scan(0, 0, 0, 0);
        x.sum(0, 0, 0);
        x.write(0, 0, 0);
        x.remove(0, 0);
        x.add(0, 0, 0);
        s.same("each counts once", x.operationCount(0), 6);
    }

    private void records() {
        s.says("A read records the key with the clock, unless the transaction has a write of this key already, or has"
                + " recorded this key before; so for each key at most one record exists, the earliest one.");
        OptimisticStore x = Stores.active(1);
        x.write(0, 1, 1);
        x.read(0, 1);
        x.remove(0, 2);
        x.read(0, 2);
        s.same("after a write and after a removal", x.recordedKeys(0), 0);
        x.read(0, 0);
        x.read(0, 31);
        s.same("the first and the last key", x.recordedKeys(0), 1 | 1 << 31);
        Check.run(x, "w1=5;w2=5");
        s.same("what is not recorded is not stale", x.isStale(0), false);
        Check.run(x, "w31=5");
        s.same("read again", x.read(0, 31), 5);
        s.same("the earliest record counts", x.isStale(0), true);
        OptimisticStore y = Stores.committed(1);
        int number = y.begin();
        y.read(number, 1);
        s.same("the clock, not 0, is recorded", y.isStale(number), false);
        y.write(number, 1, 3);
        Check.run(y, "w1=4");
        s.same("a record from before the write stays", y.isStale(number), true);
    }

    private void predicates() {
        s.says("A scan records a predicate with the clock: a range of keys and a least value.");
        String[] missing = {"w3=9", "w7=9", "w5=4", "d5"};
        for (String each : missing) {
            s.same(each + " does not touch", staleAfter(each, true), false);
        }
        for (String each : new String[] {"w4=5", "w6=5", "w5=999"}) {
            s.same(each + " touches", staleAfter(each, true), true);
        }
        OptimisticStore x = Stores.committed(3);
        int number = x.begin();
        x.scan(number, 0, 31, -999);
        s.same("commits up to the clock do not count", x.isStale(number), false);
        s.says("A sum records a predicate with the range and the least value -999.");
        for (String each : new String[] {"w3=9", "w7=9", "d5"}) {
            s.same(each + " does not touch", staleAfter(each, false), false);
        }
        for (String each : new String[] {"w4=-999", "w6=-999", "w5=0"}) {
            s.same(each + " touches", staleAfter(each, false), true);
        }
    }

    /** Whether a scan of 4 to 6 from 5 on, or a sum of 4 to 6, is stale after the script. */
    private static boolean staleAfter(String script, boolean scan) {
        OptimisticStore x = Stores.active(1);
        if (scan) {
            x.scan(0, 4, 6, 5);
        } else {
            x.sum(0, 4, 6);
        }
        Check.run(x, script);
        return x.isStale(0);
    }

    private void adds() {
        s.says("An add makes a read, and then a write, but is one operation.");
        OptimisticStore x = Stores.active(1);
        x.add(0, 31, 1);
        s.same("the read", x.recordedKeys(0), 1 << 31);
        s.same("the write", x.writtenKeys(0), 1 << 31);
        s.same("one operation", x.operationCount(0), 1);
        s.same("no predicate", x.predicateCount(0), 0);
        OptimisticStore y = Stores.operations(23);
        y.add(0, 1, 1);
        s.same("with 23 there is room for it", y.operationCount(0), 24);
        OptimisticStore z = Stores.active(1);
        z.write(0, 4, 1);
        z.add(0, 4, 1);
        s.same("after a write it records nothing", z.recordedKeys(0), 0);
    }

    private void laterWrites() {
        s.says("A later write of a key replaces an earlier one.");
        OptimisticStore x = Stores.active(1);
        x.write(0, 0, 1);
        x.write(0, 0, 2);
        x.write(0, 1, 1);
        x.remove(0, 1);
        x.remove(0, 2);
        x.write(0, 2, 3);
        x.write(0, 3, 3);
        x.add(0, 3, 4);
        x.commit(0);
        s.same("a value by a value", x.value(0), 2);
        s.same("a value by a removal", x.value(1), ABSENT);
        s.same("a removal by a value", x.value(2), 3);
        s.same("a value by an add", x.value(3), 7);
    }

    private void constants() {
        s.says("`ABSENT = -1000`: The value of a key that is absent.");
        s.same("ABSENT", OptimisticStore.ABSENT, -1000);
        s.same("value", Stores.empty().value(31), -1000);
        s.same("valueAt", Stores.empty().valueAt(31, 0), -1000);
        s.same("read", Stores.active(1).read(0, 31), -1000);
        s.says("`BLOCKED = -1`: The result of a commit that has to wait for the holder of the ticket.");
        s.same("BLOCKED", OptimisticStore.BLOCKED, -1);
        OptimisticStore x = Stores.ticket(0, 0);
        x.read(1, 0);
        x.begin();
        x.write(2, 0, 1);
        s.same("commit", x.commit(2), -1);
        s.same("a script", Check.run(x, "w0=1"), -1);
        s.says("`ABORTED = -2`: The result of a commit of a transaction that is aborted by it.");
        s.same("ABORTED", OptimisticStore.ABORTED, -2);
        OptimisticStore y = Stores.active(1);
        y.read(0, 0);
        Check.run(y, "w0=1");
        s.same("commit", y.commit(0), -2);
        s.same("a script", Check.run(y, "s1-0"), -2);
    }
}
