/** What the description says of touching, conflicts, validation, the ticket, constraints and committing. */
final class CommittingSentences {
    private static final int ABSENT = OptimisticStore.ABSENT;
    private static final int BLOCKED = OptimisticStore.BLOCKED;
    private static final int ABORTED = OptimisticStore.ABORTED;

    private final Sentences s;

    CommittingSentences(Sentences s) {
        this.s = s;
    }

    void check() {
        s.section("Description");
        allKeysAreWritten();
        touching();
        conflicts();
        staleness();
        rivals();
        victims();
        oneTicket();
        attempts();
        patience();
        freeTicket();
        constraintCount();
        constraintKinds();
        orderOfChecks();
        blocked();
        staleReasons();
        losing();
        violating();
        committing();
    }

    private void allKeysAreWritten() {
        s.says("A commit writes all keys of which the transaction has a write, also if the value does not change by"
                + " it.");
        OptimisticStore x = Stores.active(2);
        Check.run(x, "w0=1");
        x.read(0, 0);
        x.read(1, 31);
        s.same("the same value", Check.run(x, "w0=1"), x.writerOf(0));
        s.same("makes stale", x.isStale(0), true);
        s.same("the removal of an absent key", Check.run(x, "d31"), x.writerOf(31));
        s.same("makes stale", x.isStale(1), true);
        OptimisticStore y = Stores.active(2);
        for (int key = 0; key < 24; key++) {
            y.write(0, key, key);
        }
        for (int key = 8; key < 32; key++) {
            y.write(1, key, -key);
        }
        y.commit(0);
        y.commit(1);
        for (int key = 0; key < 32; key++) {
            s.same("key " + key, y.writerOf(key) + " " + y.value(key), key < 8 ? "1 " + key : "2 " + -key);
        }
    }

    private void touching() {
        s.says("A write of a key touches a predicate if the key is in its range, and if the key is present with at"
                + " least the least value before the write, or after it, or both.");
        // Before the write and after it: absent, below the least value 5, at it, above it.
        String[] values = {"d", "4", "5", "6"};
        for (int before = 0; before < 4; before++) {
            for (int after = 0; after < 4; after++) {
                boolean due = before >= 2 || after >= 2;
                s.same("from " + values[before] + " to " + values[after],
                        touches(4, values[before], values[after], 5), due);
            }
        }
        s.same("the key before the range", touches(3, "9", "9", 5), false);
        s.same("the first key", touches(4, "9", "9", 5), true);
        s.same("the last key", touches(6, "9", "9", 5), true);
        s.same("the key after the range", touches(7, "9", "9", 5), false);
        s.same("absent is not at least -999", touches(5, "d", "d", -999), false);
        s.same("-999 is at least -999", touches(5, "d", "-999", -999), true);
        s.same("-999 was at least -999", touches(5, "-999", "d", -999), true);
        s.same("999 is at least 999", touches(5, "d", "999", 999), true);
        s.same("998 is not", touches(5, "998", "998", 999), false);
    }

    /** Whether a change of the key touches a scan of 4 to 6. */
    private static boolean touches(int key, String before, String after, int least) {
        OptimisticStore x = Stores.empty();
        Check.run(x, step(key, before));
        int number = x.begin();
        x.scan(number, 4, 6, least);
        Check.run(x, step(key, after));
        return x.isStale(number);
    }

    private static String step(int key, String value) {
        return value.equals("d") ? "d" + key : "w" + key + "=" + value;
    }

    private void conflicts() {
        s.says("The writes of an active transaction conflict with another active transaction if they write a key that"
                + " the other one has recorded, or touch a predicate of the other one, if they were committed now.");
        OptimisticStore x = Stores.active(3);
        x.read(0, 31);
        x.scan(1, 10, 12, 0);
        x.write(2, 30, 1);
        s.same("no conflict", x.rivals(2), 0);
        x.write(2, 31, 1);
        s.same("a recorded key", x.rivals(2), 1);
        x.write(2, 12, -1);
        s.same("below the predicate", x.rivals(2), 1);
        Check.run(x, "w12=0");
        s.same("now it was in the predicate before", x.rivals(2), 2);
        Check.run(x, "w12=-1");
        s.same("now it is not", x.rivals(2), 1);
        x.commit(2);
        s.same("only active ones", Check.outcome(() -> x.rivals(2)), "throws.IllegalStateException");
        x.begin();
        x.write(5, 31, 1);
        x.abort(0);
        s.same("with active ones only", x.rivals(5), 0);
        OptimisticStore full = Stores.active(2);
        for (int count = 0; count < 24; count++) {
            full.sum(0, count, count);
        }
        full.write(1, 24, 1);
        s.same("24 predicates, none of them touched", full.rivals(1), 0);
        full.write(1, 23, 1);
        s.same("24 predicates, the last one touched", full.rivals(1), 1);
    }

    private void staleness() {
        s.says("With backward validation (0), which is set at first, a transaction is stale if a commit with a number"
                + " that is greater than the clock of a record of it has written the recorded key, or touched the"
                + " recorded predicate.");
        OptimisticStore x = Stores.committed(1);
        int equal = x.begin();
        x.read(equal, 1);
        x.sum(equal, 1, 1);
        s.same("a commit with the number of the clock", x.isStale(equal), false);
        s.same("backward validation at first", x.commit(equal), 2);
        int key = x.begin();
        x.read(key, 1);
        int range = x.begin();
        x.sum(range, 1, 1);
        s.same("the commit with the next number", Check.run(x, "w1=5"), 3);
        s.same("a recorded key", x.isStale(key), true);
        s.same("a recorded predicate", x.isStale(range), true);
        s.same("commit", x.commit(key) + " " + x.commit(range), "-2 -2");
        int late = x.begin();
        x.read(late, 0);
        Check.run(x, "w1=6");
        x.read(late, 1);
        x.sum(late, 1, 1);
        s.same("each record has its own clock", x.isStale(late), false);
        Check.run(x, "w2=1");
        Check.run(x, "w0=1");
        Check.run(x, "w3=1");
        s.same("not only the latest commit", x.isStale(late), true);
    }

    private void rivals() {
        s.says("With forward validation (1) the rivals of a transaction are the other active transactions with which"
                + " its writes conflict.");
        OptimisticStore x = Stores.configured(1, 1, 5);
        for (int number = 0; number < 6; number++) {
            x.begin();
            x.read(number, 0);
        }
        s.same("none without writes", x.rivals(3), 0);
        x.write(3, 0, 1);
        s.same("all five others, not itself", x.rivals(3), 5);
        x.abort(0);
        s.same("only active ones", x.rivals(3), 4);
        s.same("commit", x.commit(3), 1);
        s.same("they lose", x.aborts(3), 4);
    }

    private void victims() {
        s.says("The victim rule decides between a transaction that wants to commit and its rivals, if it has any: by"
                + " rule 0 the transaction loses, which is set at first; by rule 1 the rivals lose; by rule 2 the"
                + " transaction loses if at least one rival has more operations than it, and otherwise the rivals"
                + " lose.");
        s.same("rule 0, few operations", contest(0, 1, 3), "-2 0");
        s.same("rule 0, a writer without equal", contest(0, 24, 1), "-2 0");
        s.same("rule 1, few operations", contest(1, 24, 1), "1 2");
        s.same("rule 1, a busier rival", contest(1, 1, 24), "1 2");
        s.same("rule 2, as many", contest(2, 3, 3), "1 2");
        s.same("rule 2, one more", contest(2, 3, 4), "-2 0");
        s.same("rule 2, one less", contest(2, 3, 2), "1 2");
        s.same("rule 2, full lists", contest(2, 24, 24), "1 2");
        s.same("rule 2, 23 against 24", contest(2, 23, 24), "-2 0");
        for (int rule = 0; rule <= 2; rule++) {
            OptimisticStore x = Stores.configured(1, rule, 5);
            x.begin();
            x.read(0, 0);
            x.read(0, 1);
            s.same("no rival by rule " + rule, Check.run(x, "w2=1") + " " + x.state(0), "1 0");
        }
        OptimisticStore several = Stores.configured(1, 2, 5);
        for (int number = 0; number < 3; number++) {
            several.begin();
            several.read(number, 0);
        }
        several.read(1, 5);
        s.same("one of three has more", Check.run(several, "w0=1"), ABORTED);
        s.same("none of them loses", several.activeCount(), 3);
    }

    /** The answer of the writer's commit, and the state of its rival then. */
    private static String contest(int rule, int writes, int reads) {
        OptimisticStore x = Stores.configured(1, rule, 5);
        x.begin();
        x.begin();
        for (int count = 0; count < reads; count++) {
            x.read(0, 0);
        }
        for (int count = 0; count < writes; count++) {
            x.write(1, 0, count);
        }
        return x.commit(1) + " " + x.state(0);
    }

    private void oneTicket() {
        s.says("At most one active transaction holds the ticket.");
        OptimisticStore x = Stores.ticket(0, 0);
        x.abort(x.begin());
        x.retry(2);
        s.same("the first of two", x.ticketHolder(), 1);
        x.abort(1);
        s.same("the other one does not take it over", Check.outcome(x::ticketHolder), "throws.NoSuchElementException");
    }

    private void attempts() {
        s.says("The first attempt of a transaction has the number 1; when an aborted transaction is retried, the new"
                + " one has the next number.");
        OptimisticStore x = Stores.aborted(1);
        s.same("the first", x.attempt(0), 1);
        for (int number = 1; number < 80; number++) {
            x.retry(number - 1);
            s.same("the next", x.attempt(number), number + 1);
            x.abort(number);
        }
        OptimisticStore y = Stores.aborted(1);
        Check.run(y, "r1");
        s.same("of a script", y.attempt(1), 1);
        y.rewind(0);
        y.retry(1);
        s.same("after a rewind", y.attempt(2), 2);
    }

    private void patience() {
        s.says("A transaction gets the ticket when it begins if its attempt number is greater than the patience, which"
                + " is 3 at first, and nobody holds the ticket then.");
        s.same("attempt 3 at first", holderAtAttempt(Stores.empty(), 3), "throws.NoSuchElementException");
        s.same("attempt 4 at first", holderAtAttempt(Stores.empty(), 4), "3");
        for (int patience = 1; patience <= 5; patience++) {
            s.same("as many as the patience", holderAtAttempt(Stores.configured(0, 0, patience), patience),
                    "throws.NoSuchElementException");
            s.same("one more", holderAtAttempt(Stores.configured(0, 0, patience), patience + 1),
                    String.valueOf(patience));
        }
        OptimisticStore x = Stores.ticket(0, 0);
        x.abort(x.begin());
        x.retry(2);
        s.same("somebody holds it", x.ticketHolder(), 1);
        x.abort(1);
        x.abort(3);
        x.retry(3);
        s.same("nobody held it", x.ticketHolder(), 4);
    }

    private static String holderAtAttempt(OptimisticStore x, int attempt) {
        x.begin();
        for (int number = 0; number < attempt - 1; number++) {
            x.abort(number);
            x.retry(number);
        }
        return Check.outcome(x::ticketHolder);
    }

    private void freeTicket() {
        s.says("The ticket is free again when its holder commits or aborts.");
        String free = "throws.NoSuchElementException";
        OptimisticStore x = Stores.ticket(0, 0);
        x.commit(1);
        s.same("it commits", Check.outcome(x::ticketHolder), free);
        OptimisticStore y = Stores.ticket(0, 0);
        y.abort(1);
        s.same("it is aborted by a call", Check.outcome(y::ticketHolder), free);
        OptimisticStore z = Stores.ticket(0, 0);
        Check.run(z, "w0=1");
        z.addConstraint(1, 0, 0, 1);
        z.add(1, 0, 1);
        z.commit(1);
        s.same("it is aborted by a constraint", z.reason(1) + Check.outcome(z::ticketHolder), 4 + free);
        OptimisticStore others = Stores.ticket(0, 0);
        others.sum(1, 0, 0);
        int number = others.begin();
        others.write(number, 1, 1);
        s.same("another one commits", others.commit(number) + " " + others.ticketHolder(), "1 1");
        others.abort(others.begin());
        s.same("another one aborts", others.ticketHolder(), 1);
    }

    private void constraintCount() {
        s.says("There are at most 3 constraints, numbered from 0.");
        OptimisticStore x = Stores.empty();
        for (int number = 0; number < 3; number++) {
            s.same("addConstraint", x.addConstraint(0, 0, 31, 0), number);
        }
        s.same("a fourth", Check.outcome(() -> x.addConstraint(0, 0, 31, 0)), "throws.IllegalStateException");
        x.clearConstraints();
        s.same("from 0 again", x.addConstraint(0, 0, 31, 0), 0);
    }

    private void constraintKinds() {
        s.says("A constraint has a kind, a range of keys and a bound: for kind 0 the sum of the values of all present"
                + " keys in the range is at least the bound, for kind 1 it is at most the bound, and for kind 2 the"
                + " number of present keys in the range is at most the bound.");
        s.same("a sum above the bound, kind 0", underConstraint(0, 7, "w5=5;w6=3"), 1);
        s.same("at the bound, kind 0", underConstraint(0, 7, "w5=5;w6=2"), 1);
        s.same("below it, kind 0", underConstraint(0, 7, "w5=5;w6=1"), ABORTED);
        s.same("a sum above the bound, kind 1", underConstraint(1, 7, "w5=5;w6=3"), ABORTED);
        s.same("at the bound, kind 1", underConstraint(1, 7, "w5=5;w6=2"), 1);
        s.same("below it, kind 1", underConstraint(1, 7, "w5=5;w6=1"), 1);
        s.same("keys above the bound, kind 2", underConstraint(2, 1, "w5=-999;w6=0"), ABORTED);
        s.same("keys at the bound, kind 2", underConstraint(2, 1, "w5=9;d6"), 1);
        s.same("the keys outside do not count, kind 0", underConstraint(0, 7, "w4=999;w8=999;d6;w5=6"), ABORTED);
        s.same("the keys outside do not count, kind 1", underConstraint(1, 7, "w4=999;w8=999"), 1);
        s.same("the keys outside do not count, kind 2", underConstraint(2, 1, "w4=1;w8=1"), 1);
        s.same("the first key counts, kind 0", underConstraint(0, 7, "d6;w5=7"), 1);
        s.same("the last key counts, kind 0", underConstraint(0, 7, "d6;w7=7"), 1);
        s.same("the first key counts, kind 1", underConstraint(1, 7, "d6;w5=8"), ABORTED);
        s.same("the last key counts, kind 1", underConstraint(1, 7, "d6;w7=8"), ABORTED);
        s.same("the first key counts, kind 2", underConstraint(2, 1, "w5=4"), ABORTED);
        s.same("the last key counts, kind 2", underConstraint(2, 1, "w7=4"), ABORTED);
        s.same("an absent key counts as nothing", underConstraint(0, 0, "d5;d6;w4=-1"), 1);
    }

    /**
     * 1 or ABORTED for a script under a constraint of the keys 5 to 7; before it key 6 alone is present, so that the
     * store is just at the bound.
     */
    private static int underConstraint(int kind, int bound, String script) {
        OptimisticStore x = Stores.empty();
        Check.run(x, "w6=" + (kind == 2 ? 1 : bound));
        x.addConstraint(kind, 5, 7, bound);
        int answer = Check.run(x, script);
        return answer == ABORTED ? ABORTED : answer - 1;
    }

    private void orderOfChecks() {
        s.says("When an active transaction is to be committed, the following is checked in this order.");
        OptimisticStore x = Stores.ticket(0, 0);
        x.read(1, 5);
        x.addConstraint(1, 0, 31, 3);
        x.begin();
        x.sum(2, 8, 9);
        x.read(2, 7);
        x.write(2, 5, 9);
        Check.run(x, "w7=1;w8=1");
        s.same("the ticket first", x.commit(2), BLOCKED);
        x.abort(1);
        s.same("then staleness", x.commit(2) + " " + x.reason(2), "-2 1");
        x.begin();
        x.write(4, 5, 9);
        s.same("then the constraints", x.commit(4) + " " + x.reason(4), "-2 4");
        OptimisticStore y = Stores.ticket(1, 0);
        y.addConstraint(1, 0, 31, 3);
        y.read(1, 5);
        y.begin();
        y.read(2, 6);
        y.begin();
        y.write(3, 5, 9);
        y.write(3, 6, 9);
        s.same("the ticket first", y.commit(3), BLOCKED);
        y.abort(1);
        s.same("then the rivals", y.commit(3) + " " + y.reason(3) + " " + y.state(2), "-2 3 0");
        y.abort(2);
        y.retry(3);
        y.write(4, 6, 9);
        s.same("then the constraints", y.commit(4) + " " + y.reason(4), "-2 4");
        s.same("the clock", y.clock(), 0);
    }

    private void blocked() {
        s.says("If another transaction holds the ticket and the writes of the transaction conflict with it, it is"
                + " blocked: nothing changes, and it stays active.");
        for (int policy = 0; policy <= 1; policy++) {
            OptimisticStore x = Stores.ticket(policy, 1);
            x.read(1, 0);
            x.begin();
            x.write(2, 0, 1);
            String before = Check.everyAnswer(x);
            s.same("blocked", x.commit(2), BLOCKED);
            s.same("nothing changes", Check.everyAnswer(x), before);
            s.same("it stays active", x.state(2), 0);
            x.begin();
            x.read(3, 0);
            s.same("no writes, no conflict", x.commit(3), 1);
            x.write(1, 0, 2);
            s.same("the holder itself", x.commit(1), 2);
            s.same("not blocked any more", x.commit(2), 3);
        }
        OptimisticStore nobody = Stores.active(2);
        nobody.read(0, 0);
        nobody.write(1, 0, 1);
        s.same("a conflict, but nobody holds the ticket", nobody.commit(1), 1);
        OptimisticStore other = Stores.ticket(0, 0);
        other.begin();
        other.read(2, 0);
        other.begin();
        other.write(3, 0, 1);
        s.same("a conflict, but not with the holder", other.commit(3), 1);
        OptimisticStore full = Stores.committed(58);
        full.configure(0, 0, 1);
        full.abort(full.begin());
        full.retry(58);
        full.read(59, 0);
        full.begin();
        full.write(60, 0, 1);
        Check.run(full, "w9=1");
        s.same("with 59 commits", full.commit(60), BLOCKED);
        Check.run(full, "w9=1");
        s.same("with 60 commits", Check.outcome(() -> full.commit(60)), "throws.IllegalStateException");
    }

    private void staleReasons() {
        s.says("With backward validation, if the transaction is stale, it is aborted, with reason 1 if a recorded key"
                + " makes it stale and otherwise with reason 2.");
        s.same("a key", staleReason("w1=1"), "-2 1");
        s.same("a predicate", staleReason("w2=1"), "-2 2");
        s.same("both", staleReason("w1=1;w2=1"), "-2 1");
        OptimisticStore x = Stores.configured(1, 1, 5);
        x.begin();
        x.begin();
        x.write(1, 0, 1);
        x.commit(1);
        x.read(0, 0);
        s.same("not stale", x.commit(0), 2);
    }

    private static String staleReason(String script) {
        OptimisticStore x = Stores.active(1);
        x.sum(0, 2, 3);
        x.read(0, 1);
        Check.run(x, script);
        return x.commit(0) + " " + x.reason(0);
    }

    private void losing() {
        s.says("With forward validation, if it has rivals, does not hold the ticket, and loses by the victim rule, it"
                + " is aborted with reason 3.");
        OptimisticStore x = Stores.configured(1, 0, 1);
        x.begin();
        x.read(0, 0);
        s.same("it loses", Check.run(x, "w0=1") + " " + x.reason(1), "-2 3");
        x.retry(1);
        x.write(2, 0, 1);
        s.same("it holds the ticket", x.ticketHolder(), 2);
        s.same("and wins", x.commit(2) + " " + x.reason(0), "1 3");
        OptimisticStore backward = Stores.configured(0, 0, 1);
        backward.begin();
        backward.read(0, 0);
        s.same("with backward validation", Check.run(backward, "w0=1") + " " + backward.state(0), "1 0");
    }

    private void violating() {
        s.says("If the store with its writes applied violates a constraint, it is aborted with reason 4.");
        OptimisticStore x = Stores.configured(1, 1, 5);
        Check.run(x, "w0=2;w1=2");
        x.addConstraint(2, 30, 31, 2);
        x.addConstraint(0, 0, 1, 3);
        x.addConstraint(1, 0, 1, 5);
        x.begin();
        x.read(1, 0);
        s.same("the second one", Check.run(x, "d0") + " " + x.reason(2), "-2 4");
        s.same("the third one", Check.run(x, "w0=4") + " " + x.reason(3), "-2 4");
        s.same("its rival stays active", x.state(1), 0);
        s.same("the clock stays", x.clock(), 1);
        s.same("at both bounds", Check.run(x, "w0=1") + " " + Check.run(x, "w0=3"), "2 3");
        OptimisticStore y = Stores.empty();
        Check.run(y, "w0=2");
        y.addConstraint(0, 0, 0, 2);
        y.rewind(0);
        s.same("a store that violates it already", Check.run(y, "w1=9") + " " + y.reason(1), "-2 4");
        s.same("writes that heal it", Check.run(y, "w0=2"), 1);
    }

    private void committing() {
        s.says("Otherwise its rivals, with forward validation, are aborted with reason 3; the clock is increased by 1,"
                + " the writes are applied to the store, and the transaction is committed.");
        OptimisticStore x = Stores.configured(1, 1, 5);
        for (int number = 0; number < 6; number++) {
            x.begin();
        }
        x.read(0, 0);
        x.sum(1, 0, 1);
        x.read(2, 2);
        x.read(5, 1);
        x.write(5, 2, 2);
        x.write(3, 0, 1);
        x.remove(3, 1);
        s.same("commit", x.commit(3), 1);
        s.same("the clock", x.clock(), 1);
        s.same("the store", x.value(0) + " " + x.value(1), 1 + " " + ABSENT);
        s.same("committed", x.state(3), 1);
        s.same("rivals before and after it", x.reason(0) + " " + x.reason(1) + " " + x.reason(5), "3 3 3");
        s.same("the others", x.state(2) + " " + x.state(4), "0 0");
        s.same("no writes", x.commit(4) + " " + x.clock(), "2 2");
        OptimisticStore backward = Stores.configured(0, 1, 5);
        backward.begin();
        backward.read(0, 0);
        s.same("with backward validation", Check.run(backward, "w0=1") + " " + backward.state(0), "1 0");
        for (int rule = 0; rule <= 2; rule++) {
            s.same("with 80 transactions, rule " + rule, lastOfEighty(rule, 5), "1 0");
            s.same("with 80 transactions and a rival, rule " + rule, lastOfEighty(rule, 6), rule == 0 ? "-2 0" : "1 2");
        }
    }

    /** The answer of the 80th transaction's commit, which writes key 6, and the state of a reader of another key. */
    private static String lastOfEighty(int rule, int readKey) {
        OptimisticStore x = Stores.aborted(78);
        x.configure(1, rule, 5);
        x.begin();
        x.read(78, readKey);
        x.begin();
        x.write(79, 6, 1);
        return x.commit(79) + " " + x.state(78);
    }
}
