import java.util.function.Supplier;

/** What the document says of all calls: how many, what a refused one leaves, and which exception comes first. */
final class GeneralSentences {
    private final Sentences s;

    GeneralSentences(Sentences s) {
        this.s = s;
    }

    void check() {
        s.section("What it is");
        s.says("An object is used for at most 512 calls after it has been made; what later calls answer is free.");
        callsUpTo512();
        s.section("Description");
        s.says("A call that throws an exception leaves the state unchanged, except that the text and its fault"
                + " position are treated as described.");
        refusedOnARichStore();
        refusedScripts();
        s.says("If a method can throw several exceptions, they are checked in the order in which they are listed.");
        argumentBeforeState();
        indexBeforeTheOthers();
        orderOfAnOperation();
    }

    private void callsUpTo512() {
        OptimisticStore x = Stores.empty();
        int calls = 0;
        for (int commit = 1; commit <= 60; commit++) {
            x.begin();
            x.add(commit - 1, 0, 1);
            s.same("commit " + commit, x.commit(commit - 1), commit);
            calls += 3;
        }
        while (calls < 511) {
            x.valueAt(0, calls % 61);
            calls++;
        }
        s.same("the 512th call", x.longestChain(), 60);
    }

    private void refusedOnARichStore() {
        Supplier<OptimisticStore> rich = Stores::rich;
        s.refused("configure", Sentences.ARGUMENT, rich, x -> x.configure(0, 0, 6));
        s.refused("configure", Sentences.STATE, rich, x -> x.configure(0, 0, 3));
        s.refused("retry", Sentences.INDEX, rich, x -> x.retry(7));
        s.refused("retry", Sentences.STATE, rich, x -> x.retry(2));
        s.refused("read", Sentences.ARGUMENT, rich, x -> x.read(4, 32));
        s.refused("read", Sentences.STATE, rich, x -> x.read(0, 1));
        s.refused("scan", Sentences.ARGUMENT, rich, x -> x.scan(4, 3, 2, 0));
        s.refused("scan", Sentences.STATE, rich, x -> x.scan(1, 2, 3, 0));
        s.refused("sum", Sentences.ARGUMENT, rich, x -> x.sum(4, 3, 2));
        s.refused("sum", Sentences.STATE, rich, x -> x.sum(2, 2, 3));
        s.refused("write", Sentences.ARGUMENT, rich, x -> x.write(4, 3, 1000));
        s.refused("write", Sentences.STATE, rich, x -> x.write(3, 3, 999));
        s.refused("remove", Sentences.ARGUMENT, rich, x -> x.remove(4, -1));
        s.refused("remove", Sentences.STATE, rich, x -> x.remove(3, 1));
        s.refused("add", Sentences.ARGUMENT, rich, x -> x.add(4, 1, -1000));
        s.refused("add", Sentences.STATE, rich, x -> x.add(3, 1, -1));
        s.refused("add", Sentences.ARITHMETIC, rich, x -> x.add(4, 1, 1));
        s.refused("commit", Sentences.INDEX, rich, x -> x.commit(7));
        s.refused("commit", Sentences.STATE, rich, x -> x.commit(0));
        s.refused("abort", Sentences.INDEX, rich, x -> x.abort(7));
        s.refused("abort", Sentences.STATE, rich, x -> x.abort(0));
        s.refused("dependency", Sentences.INDEX, rich, x -> x.dependency(1, 3));
        s.refused("dependency", Sentences.ARGUMENT, rich, x -> x.dependency(2, 1));
        s.refused("rewind", Sentences.INDEX, rich, x -> x.rewind(3));
        s.refused("rewind", Sentences.STATE, rich, x -> x.rewind(1));
        s.refused("addConstraint", Sentences.ARGUMENT, rich, x -> x.addConstraint(3, 0, 31, 0));
        s.refused("addConstraint", Sentences.STATE, rich, x -> x.addConstraint(0, 0, 31, 999));
        s.refused("appendCharacter", Sentences.ARGUMENT, rich, x -> x.appendCharacter(32));
        s.refused("begin", Sentences.STATE, () -> Stores.active(6), OptimisticStore::begin);
        s.refused("begin", Sentences.STATE, () -> Stores.aborted(80), OptimisticStore::begin);
        s.refused("appendCharacter", Sentences.STATE, () -> Stores.text("r1;".repeat(20)), x -> x.appendCharacter('r'));
        s.refused("ticketHolder", Sentences.NO_ELEMENT, Stores::oneOfEach, OptimisticStore::ticketHolder);
    }

    /** The text is emptied and its fault position set; all else is as on an object that never had the text. */
    private void refusedScripts() {
        OptimisticStore faulty = Stores.rich();
        String before = Check.everyAnswer(faulty);
        faulty.runScript();
        OptimisticStore twin = Stores.rich();
        twin.runScript();
        s.same("a script without fault changes answers", Check.everyAnswer(faulty).equals(before), false);
        Check.appendAll(faulty, "w1");
        s.same("a faulty text", Check.outcome(faulty::runScript), "throws.IllegalArgumentException");
        s.same("its fault position", faulty.faultPosition(), 2);
        Check.appendAll(twin, "d0;w1=4");
        Check.appendAll(twin, ";");
        s.same("another faulty text", Check.outcome(twin::runScript), "throws.IllegalArgumentException");
        Check.appendAll(twin, "w1");
        s.same("a faulty text", Check.outcome(twin::runScript), "throws.IllegalArgumentException");
        s.same("one fault more changes nothing else", Aftermath.of(faulty), Aftermath.of(twin));

        OptimisticStore full = Stores.active(6);
        Check.appendAll(full, "w1=4");
        s.same("six active ones", Check.outcome(full::runScript), "throws.IllegalStateException");
        OptimisticStore never = Stores.active(6);
        s.same("every answer", Check.everyAnswer(full), Check.everyAnswer(never));
        s.same("what comes after it", Aftermath.of(full), Aftermath.of(never));
    }

    private void argumentBeforeState() {
        s.refused("configure(2, ..) with an active one", Sentences.ARGUMENT, () -> Stores.active(1),
                x -> x.configure(2, 0, 3));
        s.refused("a fourth constraint of kind 3", Sentences.ARGUMENT, () -> Stores.constraints(3),
                x -> x.addConstraint(3, 0, 31, 1));
        s.refused("a violated constraint of kind -1", Sentences.ARGUMENT, Stores::empty,
                x -> x.addConstraint(-1, 0, 31, 1));
        s.refused("character 127 in a full text", Sentences.ARGUMENT, () -> Stores.text("r".repeat(60)),
                x -> x.appendCharacter(127));
        s.same("a fault with six active ones", faultyRun(Stores.active(6)), "throws.IllegalArgumentException");
        s.same("a fault with 80 transactions", faultyRun(Stores.aborted(80)), "throws.IllegalArgumentException");
        s.same("a fault with 60 commits", faultyRun(Stores.committed(60)), "throws.IllegalArgumentException");
        s.refused("valueAt names the key first", Sentences.ARGUMENT, Stores::empty, x -> x.valueAt(32, 1));
    }

    private static String faultyRun(OptimisticStore x) {
        Check.appendAll(x, "r1;");
        return Check.outcome(x::runScript);
    }

    private void indexBeforeTheOthers() {
        Supplier<OptimisticStore> two = () -> Stores.active(2);
        s.refused("read of key 32 by nobody", Sentences.INDEX, two, x -> x.read(2, 32));
        s.refused("scan from 3 to 2 by nobody", Sentences.INDEX, two, x -> x.scan(2, 3, 2, 0));
        s.refused("sum from 3 to 2 by nobody", Sentences.INDEX, two, x -> x.sum(2, 3, 2));
        s.refused("write of 1000 by nobody", Sentences.INDEX, two, x -> x.write(2, 0, 1000));
        s.refused("removal of key -1 by nobody", Sentences.INDEX, two, x -> x.remove(2, -1));
        s.refused("add of 1000 by nobody", Sentences.INDEX, two, x -> x.add(2, 0, 1000));
        s.refused("retry of nobody with six active ones", Sentences.INDEX, () -> Stores.active(6), x -> x.retry(6));
        s.refused("retry of nobody with 80", Sentences.INDEX, () -> Stores.aborted(80), x -> x.retry(80));
        s.refused("commit of nobody after 60 commits", Sentences.INDEX, () -> Stores.committed(60), x -> x.commit(60));
        s.refused("dependency of a missing commit on itself", Sentences.INDEX, () -> Stores.committed(2),
                x -> x.dependency(3, 3));
        s.refused("dependency of 0 on 1", Sentences.INDEX, () -> Stores.committed(2), x -> x.dependency(1, 0));
        s.refused("dependency of 2 on 3", Sentences.INDEX, () -> Stores.committed(2), x -> x.dependency(3, 2));
        s.refused("rewind to a missing commit with an active one", Sentences.INDEX, two, x -> x.rewind(1));
    }

    private void orderOfAnOperation() {
        Supplier<OptimisticStore> full = () -> Stores.operations(24);
        s.refused("a 25th read of key 32", Sentences.ARGUMENT, full, x -> x.read(0, 32));
        s.refused("a 25th scan at least 1000", Sentences.ARGUMENT, full, x -> x.scan(0, 0, 31, 1000));
        s.refused("a 25th sum from 3 to 2", Sentences.ARGUMENT, full, x -> x.sum(0, 3, 2));
        s.refused("a 25th write of -1000", Sentences.ARGUMENT, full, x -> x.write(0, 0, -1000));
        s.refused("a 25th removal of key -1", Sentences.ARGUMENT, full, x -> x.remove(0, -1));
        s.refused("a 25th add of 1000", Sentences.ARGUMENT, full, x -> x.add(0, 0, 1000));
        Supplier<OptimisticStore> ended = Stores::oneOfEach;
        for (int number = 1; number <= 2; number++) {
            int each = number;
            s.refused("read of key -1 by an ended one", Sentences.ARGUMENT, ended, x -> x.read(each, -1));
            s.refused("scan from 1 to 0 by an ended one", Sentences.ARGUMENT, ended, x -> x.scan(each, 1, 0, 0));
            s.refused("sum up to 32 by an ended one", Sentences.ARGUMENT, ended, x -> x.sum(each, 1, 32));
            s.refused("write of 1000 by an ended one", Sentences.ARGUMENT, ended, x -> x.write(each, 1, 1000));
            s.refused("removal of key 32 by an ended one", Sentences.ARGUMENT, ended, x -> x.remove(each, 32));
            s.refused("add of -1000 by an ended one", Sentences.ARGUMENT, ended, x -> x.add(each, 1, -1000));
        }
        Supplier<OptimisticStore> brim = () -> {
            OptimisticStore x = Stores.operations(23);
            x.write(0, 5, 999);
            return x;
        };
        s.refused("a 25th add that goes too far", Sentences.STATE, brim, x -> x.add(0, 5, 1));
        s.refused("an add of 1000 that goes too far", Sentences.ARGUMENT, () -> Stores.holding("w5=999"),
                x -> x.add(0, 5, 1000));
        s.refused("an ended one's add that goes too far", Sentences.STATE, () -> Stores.committed(1), x -> {
            x.add(0, 1, 999);
        });
    }
}
