import java.util.function.Supplier;

/** The promises 27 to 39. */
final class HistorySentences {
    private static final String KEY_OUT = "Throws `IllegalArgumentException` if the key is out of range";
    private static final String NO_COMMIT = "Throws `IndexOutOfBoundsException` if there is no such commit";
    private static final int ABSENT = OptimisticStore.ABSENT;

    private final Sentences s;
    private final NumberSentences numbers;

    HistorySentences(Sentences s) {
        this.s = s;
        numbers = new NumberSentences(s);
    }

    void check() throws ReflectiveOperationException {
        s.promise(27);
        value();
        s.promise(28);
        valueAt();
        s.promise(29);
        writerOf();
        s.promise(30);
        transactionOf();
        s.promise(31);
        dependency();
        s.promise(32);
        longestChain();
        s.promise(33);
        serialFaults();
        s.promise(34);
        rewind();
        s.promise(35);
        addConstraint();
        s.promise(36);
        clearConstraints();
        s.promise(37);
        aborts();
        s.promise(38);
        averageAttempts();
        s.promise(39);
        abortRate();
    }

    private void value() {
        s.says("Returns the value of a key in the store.");
        OptimisticStore x = Stores.holding("w3=3");
        x.write(0, 3, 4);
        s.same("not of a view", x.value(3), 3);
        x.commit(0);
        s.same("after the commit", x.value(3), 4);
        numbers.keys(KEY_OUT, OptimisticStore::value);
        s.says("Returns the value, ABSENT if it is absent.");
        OptimisticStore y = Stores.holding("w0=-999;w31=999;w1=0");
        s.same("values", y.value(0) + " " + y.value(31) + " " + y.value(1), "-999 999 0");
        s.same("absent", y.value(2), ABSENT);
    }

    private void valueAt() {
        s.says("Returns the value that a key had in the store directly after a commit.");
        OptimisticStore x = Stores.empty();
        Check.run(x, "w3=3");
        Check.run(x, "d3");
        Check.run(x, "r3");
        Check.run(x, "w3=4");
        s.same("after each commit", x.valueAt(3, 0) + " " + x.valueAt(3, 1) + " " + x.valueAt(3, 2) + " "
                + x.valueAt(3, 3) + " " + x.valueAt(3, 4), "-1000 3 -1000 -1000 4");
        numbers.keys(KEY_OUT, (y, key) -> y.valueAt(key, 0));
        numbers.commits("`commit`: the number of the commit, 0 for the empty store at first", NO_COMMIT, 0,
                (y, commit) -> y.valueAt(1, commit));
        s.says("Returns the value, ABSENT if it was absent.");
        OptimisticStore y = Stores.committed(60);
        s.same("at first", y.valueAt(31, 0), ABSENT);
        s.same("still absent", y.valueAt(31, 30), ABSENT);
        s.same("just written", y.valueAt(31, 31), 31);
        s.same("later", y.valueAt(31, 60), 31);
        s.same("the last", y.valueAt(60 % 32, 60), 60);
        s.same("before the last", y.valueAt(60 % 32, 59), 28);
    }

    private void writerOf() {
        s.says("Returns the latest commit that has written a key.");
        OptimisticStore x = Stores.empty();
        Check.run(x, "w3=3;w4=4");
        Check.run(x, "w3=3");
        Check.run(x, "r3");
        s.same("the latest, though the value is the same", x.writerOf(3), 2);
        s.same("the only one", x.writerOf(4), 1);
        Check.run(x, "d4");
        s.same("a removal", x.writerOf(4), 4);
        x.rewind(3);
        s.same("after a rewind", x.writerOf(4), 1);
        numbers.keys(KEY_OUT, OptimisticStore::writerOf);
        s.says("Returns the number of the commit, 0 if there is none.");
        s.same("none", Stores.empty().writerOf(0), 0);
        s.same("no such key written", Stores.committed(60).writerOf(0), 32);
        s.same("none of this key", Stores.committed(30).writerOf(31), 0);
        s.same("the last", Stores.committed(60).writerOf(60 % 32), 60);
        x.rewind(0);
        s.same("none any more", x.writerOf(3), 0);
    }

    private void transactionOf() {
        s.says("Returns the transaction of a commit.");
        OptimisticStore x = Stores.active(3);
        x.commit(2);
        x.commit(0);
        s.same("by the order of the commits", x.transactionOf(1) + " " + x.transactionOf(2), "2 0");
        numbers.commits("`commit`: the number of the commit, from 1", NO_COMMIT, 1, OptimisticStore::transactionOf);
        s.says("Returns the number of the transaction.");
        s.same("the least", Stores.committed(1).transactionOf(1), 0);
        s.same("the greatest", Stores.committedAfter(78).transactionOf(2), 79);
        OptimisticStore y = Stores.committed(2);
        y.rewind(1);
        Check.run(y, "r0");
        s.same("after a rewind", y.transactionOf(2), 2);
    }

    private void dependency() {
        s.says("Returns how a commit depends on an earlier one.");
        s.same("not at all", dependencyOf("w0=1", "w1=1"), 0);
        s.same("all ways", dependencyOf("a0+1", "a0+1"), 7);
        s.says("`earlier`: the number of a commit, from 1");
        s.taken("1", () -> Stores.committed(60), x -> x.dependency(1, 2));
        s.taken("59", () -> Stores.committed(60), x -> x.dependency(59, 60));
        s.says("`later`: the number of a greater commit");
        s.taken("one greater", () -> Stores.committed(2), x -> x.dependency(1, 2));
        s.taken("the greatest", () -> Stores.committed(60), x -> x.dependency(1, 60));
        s.says("Returns a sum of 1 if there is a key that the transaction of the later one has recorded and of which"
                + " the earlier one is the latest writer among all commits before the later one, 2 if both have written"
                + " the same key, and 4 if the later one has written a key that the transaction of the earlier one has"
                + " recorded, or touched one of its predicates.");
        partsOfADependency();
        s.says(NO_COMMIT);
        Supplier<OptimisticStore> two = () -> Stores.committed(2);
        s.refused("none at all", Sentences.INDEX, Stores::empty, x -> x.dependency(1, 2));
        for (int commit : new int[] {0, -1, 3, 61, Integer.MIN_VALUE, Integer.MAX_VALUE}) {
            s.refused("earlier " + commit, Sentences.INDEX, two, x -> x.dependency(commit, 2));
            s.refused("later " + commit, Sentences.INDEX, two, x -> x.dependency(1, commit));
        }
        s.refused("61 of 60", Sentences.INDEX, () -> Stores.committed(60), x -> x.dependency(1, 61));
        s.says("Throws `IllegalArgumentException` if earlier is not less than later");
        s.refused("equal", Sentences.ARGUMENT, two, x -> x.dependency(1, 1));
        s.refused("equal, the last", Sentences.ARGUMENT, two, x -> x.dependency(2, 2));
        s.refused("greater", Sentences.ARGUMENT, two, x -> x.dependency(2, 1));
    }

    private void partsOfADependency() {
        s.same("1 by a read", dependencyOf("w31=1", "r31"), 1);
        s.same("1 by a removal that is read", dependencyOf("d31", "r31"), 1);
        s.same("no 1 if another writes between", dependencyOf("w0=1", "w0=2", "r0"), 0);
        s.same("1 by another key all the same", dependencyOf("w0=1;w1=1", "w0=2", "r0;r1"), 1);
        s.same("no 1 by a sum", dependencyOf("w0=1", "s0-0"), 0);
        s.same("no 1 by a read of an own write", dependencyOf("w0=1", "w0=2;r0"), 2);
        s.same("2 by key 31", dependencyOf("w31=1", "d31"), 2);
        s.same("2 though another writes between", dependencyOf("w0=1", "w0=2", "w0=3"), 2);
        s.same("4 by a record", dependencyOf("r31", "w31=1"), 4);
        s.same("4 by the removal of an absent key", dependencyOf("r31", "d31"), 4);
        s.same("4 though another writes between", dependencyOf("r0", "w0=1", "w0=2"), 4);
        s.same("4 by a predicate", dependencyOf("s30-31", "w31=-999"), 4);
        s.same("no 4 beside the predicate", dependencyOf("s30-31", "w29=1"), 0);
        s.same("no 4 by the removal of an absent key in it", dependencyOf("s30-31", "d31"), 0);
        s.same("4 by the removal of a present key in it", dependencyOf("s30-31", "w31=1", "d31"), 4);
        s.same("3", dependencyOf("w0=1", "a0+1"), 3);
        s.same("5", dependencyOf("w0=1;r1", "r0;w1=1"), 5);
        s.same("6", dependencyOf("a0+1", "w0=1"), 6);
    }

    /** How the last of the scripts depends on the first. */
    private static int dependencyOf(String... scripts) {
        OptimisticStore x = Stores.empty();
        for (String each : scripts) {
            Check.run(x, each);
        }
        return x.dependency(1, scripts.length);
    }

    private void longestChain() {
        s.says("Returns the greatest number of commits in a sequence in which each commit but the first depends on the"
                + " one before, that is, the dependency is not 0.");
        s.same("two apart", chainOf("w0=1", "w1=1"), 1);
        s.same("two in a chain", chainOf("w0=1", "r0"), 2);
        s.same("by a dependency of 2", chainOf("w0=1", "w0=1"), 2);
        s.same("by a dependency of 4", chainOf("r0", "w0=1"), 2);
        s.same("three with one between", chainOf("w0=1", "w9=1", "r0;w1=1", "r1"), 3);
        s.same("the greater of two", chainOf("w0=1", "w1=1", "r1;w2=1", "r2;w3=1", "r0"), 3);
        s.same("the greater by the first of two ways", chainOf("w0=1", "a0+1", "w5=1", "r0;r5"), 3);
        s.same("two readers are no chain", chainOf("r0", "r0"), 1);
        s.says("Returns the number of commits, 0 if there are none.");
        s.same("none", Stores.empty().longestChain(), 0);
        s.same("active ones alone", Stores.active(6).longestChain(), 0);
        s.same("one", Stores.committed(1).longestChain(), 1);
        OptimisticStore x = Stores.empty();
        for (int commit = 1; commit <= 60; commit++) {
            Check.run(x, "a0+1");
        }
        s.same("all 60", x.longestChain(), 60);
        x.rewind(1);
        s.same("one again", x.longestChain(), 1);
        x.rewind(0);
        s.same("none again", x.longestChain(), 0);
    }

    private static int chainOf(String... scripts) {
        OptimisticStore x = Stores.empty();
        for (String each : scripts) {
            Check.run(x, each);
        }
        return x.longestChain();
    }

    /** Validation keeps faults out, so a store that a commit found is changed from outside to see one counted. */
    private void serialFaults() throws ReflectiveOperationException {
        s.says("Checks serializability.");
        OptimisticStore mixed = Stores.active(2);
        mixed.read(0, 0);
        mixed.write(1, 0, 1);
        mixed.commit(1);
        mixed.commit(0);
        s.same("the stale one is not committed", mixed.state(0) + " " + mixed.serialFaults(), "2 0");
        s.says("For each committed transaction all operations are repeated, in their order, on the store as it was"
                + " directly before its commit, with its own writes applied to a view of its own.");
        OptimisticStore own = Stores.empty();
        Check.run(own, "w0=5;r0;a0+1;s0-0;d0;r0;a0-7;s0-31;w0=1");
        Check.run(own, "r0;w0=2;r0;a0+1");
        s.same("each sees its own writes so far", own.serialFaults(), 0);
        OptimisticStore full = Stores.operations(24);
        full.commit(0);
        s.same("all of 24 operations", full.serialFaults(), 0);
        OptimisticStore last = Stores.operations(23);
        last.read(0, 1);
        last.commit(0);
        HistoryTest.storesOf(last)[0][1] = 3;
        s.same("also the 24th", last.serialFaults(), 1);
        s.says("It has a fault if a read, scan, sum or add does not give the result that it gave when it was made.");
        for (String script : new String[] {"r0", "s0-1", "a0+1", "r1;a0+0"}) {
            OptimisticStore x = Stores.empty();
            Check.run(x, script);
            HistoryTest.storesOf(x)[0][0] = 3;
            s.same("a fault of " + script, x.serialFaults(), 1);
        }
        OptimisticStore scan = Stores.active(1);
        scan.scan(0, 0, 1, 3);
        scan.commit(0);
        HistoryTest.storesOf(scan)[0][1] = 2;
        s.same("a scan below its least value", scan.serialFaults(), 0);
        HistoryTest.storesOf(scan)[0][1] = 3;
        s.same("a scan at its least value", scan.serialFaults(), 1);
        OptimisticStore blind = Stores.empty();
        Check.run(blind, "w0=1;d0;d1");
        HistoryTest.storesOf(blind)[0][0] = 3;
        s.same("writes and removals give no result", blind.serialFaults(), 0);
        s.says("Returns the number of committed transactions with a fault.");
        s.same("none", Stores.empty().serialFaults(), 0);
        OptimisticStore all = Stores.empty();
        for (int commit = 1; commit <= 60; commit++) {
            Check.run(all, "r31;r31");
        }
        s.same("60 without fault", all.serialFaults(), 0);
        for (int commit = 1; commit <= 60; commit++) {
            HistoryTest.storesOf(all)[commit - 1][31] = 7;
        }
        s.same("60 with a fault, each counted once", all.serialFaults(), 60);
        all.rewind(1);
        s.same("the others are not committed any more", all.serialFaults(), 1);
    }

    private void rewind() {
        s.says("Makes the store and the clock what they were directly after a commit.");
        for (int commit = 0; commit <= 4; commit++) {
            OptimisticStore x = Stores.committed(4);
            x.rewind(commit);
            OptimisticStore due = Stores.committed(commit);
            s.same("clock", x.clock(), commit);
            for (int key = 0; key < 32; key++) {
                s.same("key " + key, x.value(key) + " " + x.writerOf(key), due.value(key) + " " + due.writerOf(key));
            }
        }
        s.says("The transactions of all later commits become aborted, with reason 6, and can be retried.");
        OptimisticStore y = Stores.committed(4);
        y.rewind(2);
        s.same("the earlier ones stay", y.state(0) + " " + y.state(1), "1 1");
        s.same("the later ones", y.state(2) + " " + y.reason(2) + " " + y.state(3) + " " + y.reason(3), "2 6 2 6");
        s.same("retried", y.retry(2) + " " + y.retry(3) + " " + y.attempt(5), "4 5 2");
        s.same("once", Check.outcome(() -> y.retry(2)), "throws.IllegalStateException");
        numbers.commits("`commit`: the number of the commit, 0 for the empty store at first", NO_COMMIT, 0,
                OptimisticStore::rewind);
        s.says("Returns the number of commits that are taken back.");
        s.same("none of none", Stores.empty().rewind(0), 0);
        s.same("none", Stores.committed(3).rewind(3), 0);
        s.same("one", Stores.committed(3).rewind(2), 1);
        s.same("all", Stores.committed(60).rewind(0), 60);
        s.says("Throws `IllegalStateException` if a transaction is active");
        s.refused("an active one", Sentences.STATE, () -> Stores.holding("w1=1"), x -> x.rewind(0));
        s.refused("an active one, nothing to take back", Sentences.STATE, () -> Stores.holding("w1=1"),
                x -> x.rewind(1));
        s.refused("an active one, no commit", Sentences.STATE, () -> Stores.active(1), x -> x.rewind(0));
        s.taken("ended ones", () -> Stores.committedAfter(2), x -> x.rewind(0));
    }

    private void addConstraint() {
        s.says("Adds a constraint.");
        OptimisticStore x = Stores.empty();
        x.addConstraint(2, 5, 5, 0);
        s.same("it holds now", Check.run(x, "w5=1") + " " + Check.run(x, "w4=1;w6=1"), "-2 1");
        Supplier<OptimisticStore> none = Stores::empty;
        s.says("`kind`: the kind, 0 to 2");
        s.taken("kind 0", none, y -> y.addConstraint(0, 0, 31, 0));
        s.taken("kind 1", none, y -> y.addConstraint(1, 0, 31, 0));
        s.taken("kind 2", none, y -> y.addConstraint(2, 0, 31, 0));
        s.says("`low`: the first key of the range, 0 to 31");
        s.taken("low 0", none, y -> y.addConstraint(0, 0, 31, 0));
        s.taken("low 31", none, y -> y.addConstraint(0, 31, 31, 0));
        s.says("`high`: the last key of the range, low to 31");
        for (int key = 0; key < 32; key++) {
            int each = key;
            s.taken("high as low, " + key, none, y -> y.addConstraint(2, each, each, 0));
        }
        s.taken("high 31", none, y -> y.addConstraint(0, 0, 31, 0));
        s.says("`bound`: the bound, any number");
        s.taken("the least sum", none, y -> y.addConstraint(0, 0, 31, Integer.MIN_VALUE));
        s.taken("the greatest sum", none, y -> y.addConstraint(1, 0, 31, Integer.MAX_VALUE));
        s.taken("the greatest count", none, y -> y.addConstraint(2, 0, 31, Integer.MAX_VALUE));
        OptimisticStore wide = Stores.empty();
        wide.addConstraint(0, 0, 31, Integer.MIN_VALUE);
        wide.addConstraint(1, 0, 31, Integer.MAX_VALUE);
        s.same("no wrap-around", Check.run(wide, "w0=-999;w1=-999") + " " + Check.run(wide, "w0=999;w1=999"), "1 2");
        s.says("Returns the number of the constraint.");
        OptimisticStore three = Stores.empty();
        s.same("the first", three.addConstraint(0, 0, 31, 0), 0);
        s.same("the second, an equal one", three.addConstraint(0, 0, 31, 0), 1);
        s.same("the third", three.addConstraint(2, 1, 1, 0), 2);
        s.says("Throws `IllegalArgumentException` if kind, low or high is out of range");
        wrongConstraints();
        s.says("Throws `IllegalStateException` if there are 3 constraints, or the store violates the constraint");
        s.taken("with 2", () -> Stores.constraints(2), y -> y.addConstraint(2, 0, 31, 5));
        s.refused("with 3", Sentences.STATE, () -> Stores.constraints(3), y -> y.addConstraint(2, 0, 31, 5));
        violatedConstraints();
    }

    private void wrongConstraints() {
        for (int kind : new int[] {-1, 3, Integer.MIN_VALUE, Integer.MAX_VALUE}) {
            s.refused("kind " + kind, Sentences.ARGUMENT, Stores::empty, x -> x.addConstraint(kind, 0, 31, 0));
        }
        numbers.wrongKeys("low", (x, key) -> x.addConstraint(0, key, 31, 0));
        numbers.wrongKeys("high", (x, key) -> x.addConstraint(0, 0, key, 0));
        numbers.wrongKeys("low and high", (x, key) -> x.addConstraint(0, key, key, 0));
        for (int low = 1; low < 32; low++) {
            int each = low;
            s.refused("high one below low " + low, Sentences.ARGUMENT, Stores::empty,
                    x -> x.addConstraint(0, each, each - 1, 0));
        }
    }

    private void violatedConstraints() {
        Supplier<OptimisticStore> seven = () -> Stores.holding("w4=100;w5=3;w6=4;w7=100");
        s.taken("7 is at least 7", seven, x -> x.addConstraint(0, 5, 6, 7));
        s.refused("7 is at least 8", Sentences.STATE, seven, x -> x.addConstraint(0, 5, 6, 8));
        s.taken("7 is at most 7", seven, x -> x.addConstraint(1, 5, 6, 7));
        s.refused("7 is at most 6", Sentences.STATE, seven, x -> x.addConstraint(1, 5, 6, 6));
        s.taken("2 keys are at most 2", seven, x -> x.addConstraint(2, 5, 6, 2));
        s.refused("2 keys are at most 1", Sentences.STATE, seven, x -> x.addConstraint(2, 5, 6, 1));
        s.taken("an empty sum is at least 0", Stores::empty, x -> x.addConstraint(0, 0, 31, 0));
        s.refused("an empty sum is at least 1", Sentences.STATE, Stores::empty, x -> x.addConstraint(0, 0, 31, 1));
        s.refused("an empty sum is at most -1", Sentences.STATE, Stores::empty, x -> x.addConstraint(1, 0, 31, -1));
        s.refused("no key is at most -1", Sentences.STATE, Stores::empty, x -> x.addConstraint(2, 0, 31, -1));
        for (int kind = 0; kind <= 2; kind++) {
            int each = kind;
            int worst = kind == 0 ? Integer.MAX_VALUE : Integer.MIN_VALUE;
            s.refused("the worst bound", Sentences.STATE, Stores::empty, x -> x.addConstraint(each, 0, 31, worst));
        }
        OptimisticStore pending = Stores.active(1);
        pending.write(0, 5, 9);
        s.same("the store, not a view, counts", pending.addConstraint(2, 5, 5, 0), 0);
    }

    private void clearConstraints() {
        s.says("Removes all constraints.");
        OptimisticStore x = Stores.constraints(0);
        for (int key = 0; key < 3; key++) {
            x.addConstraint(2, key, key, 0);
        }
        s.same("they hold", Check.run(x, "w0=1") + " " + Check.run(x, "w1=1") + " " + Check.run(x, "w2=1"), "-2 -2 -2");
        x.clearConstraints();
        s.same("none holds any more", Check.run(x, "w0=1;w1=1;w2=1"), 1);
        s.same("there is room again", x.addConstraint(2, 9, 9, 0), 0);
        s.same("only the new one holds", Check.run(x, "a0+1;a1+1;a2+1") + " " + Check.run(x, "w9=1"), "2 -2");
        s.says("Returns the number of constraints that were removed.");
        for (int count = 0; count <= 3; count++) {
            OptimisticStore y = Stores.constraints(count);
            s.same("of " + count, y.clearConstraints() + " " + y.clearConstraints(), count + " 0");
        }
    }

    private void aborts() {
        s.says("Returns how many transactions are aborted with a reason.");
        OptimisticStore x = Stores.configured(1, 1, 5);
        x.begin();
        x.read(0, 0);
        Check.run(x, "w0=1");
        x.abort(x.begin());
        s.same("one of 3, one of 5", x.aborts(3) + " " + x.aborts(5) + " " + x.aborts(6), "1 1 0");
        x.rewind(0);
        s.same("one of 6 more", x.aborts(3) + " " + x.aborts(5) + " " + x.aborts(6), "1 1 1");
        x.retry(2);
        s.same("a retried one stays aborted", x.aborts(5), 1);
        s.says("`reason`: the reason, 1 to 6");
        for (int reason = 1; reason <= 6; reason++) {
            int each = reason;
            s.taken("reason " + reason, Stores::empty, y -> y.aborts(each));
        }
        s.says("Returns the number of transactions.");
        s.same("none", Stores.empty().aborts(5), 0);
        s.same("all", Stores.aborted(80).aborts(5), 80);
        s.same("of the other reasons", Stores.aborted(80).aborts(4) + " " + Stores.aborted(80).aborts(6), "0 0");
        s.says("Throws `IllegalArgumentException` if the reason is out of range");
        for (int reason : new int[] {0, 7, -1, Integer.MIN_VALUE, Integer.MAX_VALUE}) {
            s.refused("reason " + reason, Sentences.ARGUMENT, Stores::oneOfEach, y -> y.aborts(reason));
        }
    }

    private void averageAttempts() {
        s.says("Returns the average attempt number of all committed transactions: the sum of these numbers divided by"
                + " their count, both converted to double.");
        OptimisticStore x = Stores.aborted(1);
        x.retry(0);
        x.commit(1);
        Check.run(x, "r0");
        Check.run(x, "r0");
        s.same("4 by 3", x.averageAttempts(), 4.0 / 3.0);
        x.begin();
        s.same("active and aborted ones do not count", x.averageAttempts(), 4.0 / 3.0);
        x.abort(4);
        x.rewind(2);
        s.same("a rewound one does not count", x.averageAttempts(), 1.5);
        s.says("Returns the average.");
        s.same("one", Stores.committed(1).averageAttempts(), 1.0);
        s.same("60", Stores.committed(60).averageAttempts(), 1.0);
        OptimisticStore last = Stores.aborted(1);
        for (int number = 0; number < 79; number++) {
            last.retry(number);
            if (number < 78) {
                last.abort(number + 1);
            }
        }
        last.commit(79);
        s.same("the greatest", last.averageAttempts(), 80.0);
        s.says("Throws `ArithmeticException` if no transaction is committed");
        s.refused("none", Sentences.ARITHMETIC, Stores::empty, OptimisticStore::averageAttempts);
        s.refused("active ones", Sentences.ARITHMETIC, () -> Stores.active(6), OptimisticStore::averageAttempts);
        s.refused("aborted ones", Sentences.ARITHMETIC, () -> Stores.aborted(3), OptimisticStore::averageAttempts);
        s.refused("rewound ones", Sentences.ARITHMETIC, () -> {
            OptimisticStore y = Stores.committed(2);
            y.rewind(0);
            return y;
        }, OptimisticStore::averageAttempts);
        s.taken("one is", () -> Stores.committed(1), OptimisticStore::averageAttempts);
    }

    private void abortRate() {
        s.says("Returns the number of aborted transactions divided by the number of transactions that are not active,"
                + " both converted to float.");
        OptimisticStore x = Stores.oneOfEach();
        s.same("1 by 2", x.abortRate(), 0.5f);
        Check.run(x, "r0");
        s.same("1 by 3", x.abortRate(), 1.0f / 3.0f);
        x.abort(0);
        s.same("2 by 4", x.abortRate(), 2.0f / 4.0f);
        x.rewind(1);
        s.same("3 by 4, after a rewind", x.abortRate(), 3.0f / 4.0f);
        s.says("Returns the quotient.");
        s.same("none aborted", Stores.committed(60).abortRate(), 0.0f);
        s.same("all aborted", Stores.aborted(80).abortRate(), 1.0f);
        s.same("78 by 80", Stores.committedAfter(78).abortRate(), 78.0f / 80.0f);
        s.says("Throws `ArithmeticException` if all transactions are active or there are none");
        s.refused("none", Sentences.ARITHMETIC, Stores::empty, OptimisticStore::abortRate);
        s.refused("one active one", Sentences.ARITHMETIC, () -> Stores.active(1), OptimisticStore::abortRate);
        s.refused("six active ones", Sentences.ARITHMETIC, () -> Stores.active(6), OptimisticStore::abortRate);
        s.taken("one is not", Stores::oneOfEach, OptimisticStore::abortRate);
    }
}
