/** Promises 11, 20, 25 and 26: committing, with both policies, the victim rules and the ticket. */
public final class CommitTest {
    private static final Check CHECK = new Check();
    private static final int ABORTED = OptimisticStore.ABORTED;
    private static final int BLOCKED = OptimisticStore.BLOCKED;

    public static void main(String[] args) {
        plainCommits();
        sixtyCommits();
        staleByKey();
        staleByPredicate();
        touching();
        keyBeforePredicate();
        rivals();
        selfLoses();
        rivalsLose();
        busierWins();
        backwardLeavesRivals();
        blocked();
        blockedByPredicate();
        holderBeatsRule();
        order();
        CHECK.finish("CommitTest");
    }

    private static OptimisticStore forward(int rule) {
        OptimisticStore x = new OptimisticStore();
        x.configure(1, rule, 1);
        return x;
    }

    private static void plainCommits() {
        OptimisticStore x = new OptimisticStore();
        x.begin();
        x.begin();
        CHECK.state(x, "commitOf an active one", () -> x.commitOf(0));
        x.write(1, 0, 5);
        CHECK.same("commit 1", x.commit(1), 1);
        CHECK.same("commit without writes", x.commit(0), 2);
        CHECK.same("clock", x.clock(), 2);
        CHECK.same("commitOf 1", x.commitOf(1), 1);
        CHECK.same("commitOf 0", x.commitOf(0), 2);
        CHECK.same("state", x.state(0), 1);
        CHECK.state(x, "commit of a committed one", () -> x.commit(0));
        x.begin();
        x.abort(2);
        CHECK.state(x, "commit of an aborted one", () -> x.commit(2));
        CHECK.state(x, "commitOf an aborted one", () -> x.commitOf(2));
        CHECK.state(x, "isStale of an aborted one", () -> x.isStale(2));
        CHECK.state(x, "isStale of a committed one", () -> x.isStale(1));
        CHECK.state(x, "rivals of an aborted one", () -> x.rivals(2));
        CHECK.state(x, "rivals of a committed one", () -> x.rivals(1));
    }

    private static void sixtyCommits() {
        OptimisticStore x = new OptimisticStore();
        x.begin();
        x.read(0, 0);
        for (int commit = 1; commit <= 60; commit++) {
            int t = x.begin();
            x.write(t, commit % 32, commit);
            CHECK.same("commit", x.commit(t), commit);
            CHECK.same("clock", x.clock(), commit);
        }
        int t = x.begin();
        CHECK.state(x, "a 61st commit", () -> x.commit(t));
        CHECK.state(x, "a stale one after 60 commits", () -> x.commit(0));
        Check.appendAll(x, "r1");
        CHECK.state(x, "a script after 60 commits", x::runScript);
        CHECK.same("no transaction was begun", x.transactionCount(), 62);
        x.abort(t);
        x.abort(0);
        CHECK.same("rewind", x.rewind(59), 1);
        CHECK.same("a commit again", Check.run(x, "r1"), 60);
    }

    private static void staleByKey() {
        OptimisticStore x = new OptimisticStore();
        x.begin();
        x.read(0, 3);
        x.write(0, 3, 1);
        CHECK.same("fresh", x.isStale(0), false);
        Check.run(x, "w4=1");
        CHECK.same("another key", x.isStale(0), false);
        Check.run(x, "d3");
        CHECK.same("a write that changes nothing counts", x.isStale(0), true);
        CHECK.same("clock", x.clock(), 2);
        CHECK.same("commit", x.commit(0), ABORTED);
        CHECK.same("state", x.state(0), 2);
        CHECK.same("reason", x.reason(0), 1);
        CHECK.same("clock stays", x.clock(), 2);
        CHECK.same("value stays", x.value(3), OptimisticStore.ABSENT);
        CHECK.same("activeCount", x.activeCount(), 0);
        x.begin();
        x.add(3, 3, 1);
        Check.run(x, "w3=0");
        CHECK.same("an add is stale as a read", x.commit(3), ABORTED);
        x.begin();
        x.write(5, 3, 1);
        Check.run(x, "w3=9");
        CHECK.same("a blind write is not stale", x.commit(5), 5);
        CHECK.same("the later commit wins", x.value(3), 1);
    }

    private static void staleByPredicate() {
        OptimisticStore x = new OptimisticStore();
        x.begin();
        x.scan(0, 2, 4, 5);
        x.begin();
        x.sum(1, 2, 4);
        Check.run(x, "w1=9;w5=9;w3=4");
        CHECK.same("outside of the scan", x.isStale(0), false);
        CHECK.same("inside of the sum", x.isStale(1), true);
        CHECK.same("the sum's commit", x.commit(1), ABORTED);
        CHECK.same("reason", x.reason(1), 2);
        Check.run(x, "w4=5");
        CHECK.same("at the scan's border", x.isStale(0), true);
        CHECK.same("the scan's commit", x.commit(0), ABORTED);
        CHECK.same("reason", x.reason(0), 2);
        // Each predicate has a clock of its own.
        x.begin();
        x.scan(4, 10, 10, 0);
        Check.run(x, "w11=1");
        x.scan(4, 11, 11, 0);
        CHECK.same("a predicate after the commit", x.isStale(4), false);
        Check.run(x, "w10=1");
        CHECK.same("the first predicate's range", x.isStale(4), true);
    }

    private static void touching() {
        OptimisticStore x = new OptimisticStore();
        Check.run(x, "w0=5;w1=4");
        String[] changes = {"w0=5", "w0=4", "w0=9", "d0", "w1=4", "w1=3", "w1=5", "d1", "w2=4", "w2=5", "d2"};
        boolean[] due = {true, true, true, true, false, false, true, false, false, true, false};
        for (int index = 0; index < changes.length; index++) {
            int t = x.begin();
            x.scan(t, 0, 2, 5);
            int commit = Check.run(x, changes[index]);
            CHECK.same(changes[index] + " touches", x.isStale(t), due[index]);
            x.abort(t);
            x.rewind(commit - 1);
        }
        int t = x.begin();
        x.sum(t, 2, 3);
        Check.run(x, "d2;d3");
        CHECK.same("removing absent keys touches no sum", x.isStale(t), false);
        Check.run(x, "w2=-999");
        CHECK.same("the least value touches a sum", x.isStale(t), true);
    }

    private static void keyBeforePredicate() {
        OptimisticStore x = new OptimisticStore();
        x.begin();
        x.sum(0, 0, 1);
        x.read(0, 1);
        Check.run(x, "w1=1");
        CHECK.same("commit", x.commit(0), ABORTED);
        CHECK.same("the key comes first", x.reason(0), 1);
    }

    private static void rivals() {
        OptimisticStore x = new OptimisticStore();
        Check.run(x, "w0=5;w1=4");
        int reader = x.begin();
        int scanner = x.begin();
        int writer = x.begin();
        x.read(reader, 0);
        x.scan(scanner, 0, 9, 5);
        CHECK.same("without writes", x.rivals(writer), 0);
        x.write(writer, 1, 4);
        CHECK.same("below the least value", x.rivals(writer), 0);
        x.write(writer, 1, 5);
        CHECK.same("the scanner", x.rivals(writer), 1);
        x.remove(writer, 1);
        CHECK.same("a removal below", x.rivals(writer), 0);
        x.remove(writer, 0);
        CHECK.same("the removal of a present key", x.rivals(writer), 2);
        CHECK.same("not the other way round", x.rivals(reader), 0);
        x.read(writer, 7);
        x.write(writer, 7, 7);
        CHECK.same("it is no rival of itself", x.rivals(writer), 2);
        x.abort(scanner);
        CHECK.same("only active ones", x.rivals(writer), 1);
        CHECK.same("backward validation aborts no rival", x.commit(writer), 2);
        CHECK.same("the reader stays active", x.state(reader), 0);
        int blind = x.begin();
        x.write(blind, 20, 1);
        int other = x.begin();
        x.write(other, 20, 2);
        CHECK.same("two blind writes do not conflict", x.rivals(blind) + x.rivals(other), 0);
    }

    private static void selfLoses() {
        OptimisticStore x = forward(0);
        x.begin();
        x.begin();
        x.read(0, 0);
        x.write(1, 0, 1);
        x.write(1, 1, 1);
        CHECK.same("the writer loses", x.commit(1), ABORTED);
        CHECK.same("reason", x.reason(1), 3);
        CHECK.same("the reader goes on", x.commit(0), 1);
        CHECK.same("value", x.value(0), OptimisticStore.ABSENT);
        x.begin();
        x.write(2, 0, 2);
        CHECK.same("without rivals", x.commit(2), 2);
    }

    private static void rivalsLose() {
        OptimisticStore x = forward(1);
        for (int number = 0; number < 4; number++) {
            x.begin();
        }
        x.read(0, 0);
        x.read(0, 5);
        x.sum(1, 0, 3);
        x.read(2, 9);
        x.write(3, 0, 1);
        CHECK.same("the writer wins", x.commit(3), 1);
        CHECK.same("reason of the reader", x.reason(0), 3);
        CHECK.same("reason of the summer", x.reason(1), 3);
        CHECK.same("no rival", x.state(2), 0);
        CHECK.same("aborts", x.aborts(3), 2);
        CHECK.same("activeCount", x.activeCount(), 1);
        CHECK.same("the ones that lost can be retried", x.retry(0), 4);
    }

    private static void busierWins() {
        int[][] cases = {{1, 1, 1}, {2, 1, -2}, {1, 2, 1}, {2, 2, 1}, {3, 2, -2}};
        for (int[] each : cases) {
            OptimisticStore x = forward(2);
            x.begin();
            x.begin();
            for (int count = 0; count < each[0]; count++) {
                x.read(0, 0);
            }
            for (int count = 0; count < each[1]; count++) {
                x.write(1, 0, count);
            }
            CHECK.same("rule 2", x.commit(1), each[2]);
            CHECK.same("the writer", x.state(1), each[2] == 1 ? 1 : 2);
            CHECK.same("the reader", x.state(0), each[2] == 1 ? 2 : 0);
        }
        OptimisticStore x = forward(2);
        x.begin();
        x.begin();
        x.begin();
        x.read(0, 0);
        x.read(1, 8);
        x.read(1, 8);
        x.write(2, 0, 1);
        CHECK.same("a busier one that is no rival", x.commit(2), 1);
        CHECK.same("it stays active", x.state(1), 0);
        x.begin();
        x.read(3, 8);
        x.begin();
        x.write(4, 8, 1);
        CHECK.same("one busier rival is enough", x.commit(4), ABORTED);
        CHECK.same("the other rival stays active", x.state(3), 0);
    }

    private static void backwardLeavesRivals() {
        OptimisticStore x = new OptimisticStore();
        x.configure(0, 1, 3);
        x.begin();
        x.begin();
        x.read(0, 0);
        x.write(1, 0, 1);
        CHECK.same("commit", x.commit(1), 1);
        CHECK.same("the rival is active", x.state(0), 0);
        CHECK.same("forward validation does not look at staleness", forwardCommitOfReader(), 2);
    }

    private static int forwardCommitOfReader() {
        OptimisticStore x = forward(1);
        x.begin();
        x.begin();
        x.scan(0, 0, 5, 5);
        x.write(1, 0, 1);
        x.commit(1);
        return x.commit(0);
    }

    /** Transaction 1 is the second attempt of transaction 0 and holds the ticket. */
    private static OptimisticStore withHolder(int policy, int rule) {
        OptimisticStore x = new OptimisticStore();
        x.configure(policy, rule, 1);
        x.begin();
        x.abort(0);
        x.retry(0);
        CHECK.same("ticketHolder", x.ticketHolder(), 1);
        return x;
    }

    private static void blocked() {
        for (int policy = 0; policy <= 1; policy++) {
            for (int rule = 0; rule <= 2; rule++) {
                OptimisticStore x = withHolder(policy, rule);
                x.read(1, 0);
                x.begin();
                x.write(2, 0, 9);
                String before = Check.everyAnswer(x);
                CHECK.same("commit", x.commit(2), BLOCKED);
                CHECK.same("nothing changes", Check.everyAnswer(x), before);
                CHECK.same("again", x.commit(2), BLOCKED);
                x.begin();
                x.write(3, 1, 9);
                CHECK.same("no conflict with the holder", x.commit(3), 1);
                x.write(1, 0, 1);
                CHECK.same("the holder", x.commit(1), 2);
                CHECK.same("the blocked one afterwards", x.commit(2), 3);
                CHECK.same("value", x.value(0), 9);
            }
        }
    }

    private static void blockedByPredicate() {
        OptimisticStore x = withHolder(0, 0);
        x.scan(1, 0, 5, 10);
        x.begin();
        x.write(2, 3, 9);
        CHECK.same("below the least value", x.commit(2), 1);
        x.begin();
        x.write(3, 3, 10);
        CHECK.same("touching", x.commit(3), BLOCKED);
        x.abort(1);
        CHECK.same("after the holder's abort", x.commit(3), 2);
    }

    private static void holderBeatsRule() {
        for (int rule = 0; rule <= 2; rule++) {
            OptimisticStore x = withHolder(1, rule);
            x.begin();
            x.read(2, 0);
            x.read(2, 0);
            x.write(1, 0, 1);
            CHECK.same("the holder wins", x.commit(1), 1);
            CHECK.same("its rival loses", x.reason(2), 3);
            CHECK.refused(x, java.util.NoSuchElementException.class, "the ticket is free", x::ticketHolder);
        }
        OptimisticStore x = withHolder(1, 0);
        x.addConstraint(1, 0, 31, 0);
        x.begin();
        x.read(2, 0);
        x.write(1, 0, 1);
        CHECK.same("not against a constraint", x.commit(1), ABORTED);
        CHECK.same("reason", x.reason(1), 4);
        CHECK.same("its rival stays", x.state(2), 0);
        CHECK.refused(x, java.util.NoSuchElementException.class, "the ticket is free then", x::ticketHolder);
    }

    private static void order() {
        // Blocked before stale.
        OptimisticStore x = withHolder(0, 0);
        x.addConstraint(2, 0, 31, 1);
        x.read(1, 5);
        x.begin();
        x.read(2, 0);
        x.write(2, 5, 1);
        Check.run(x, "w0=1");
        CHECK.same("stale", x.isStale(2), true);
        CHECK.same("blocked all the same", x.commit(2), BLOCKED);
        x.abort(1);
        // Stale before the constraint.
        CHECK.same("stale now", x.commit(2), ABORTED);
        CHECK.same("reason", x.reason(2), 1);
        // Rivals before the constraint, but no rival loses to a transaction that violates it.
        OptimisticStore y = forward(0);
        y.addConstraint(1, 0, 31, 0);
        y.begin();
        y.read(0, 0);
        y.begin();
        y.write(1, 0, 1);
        CHECK.same("commit", y.commit(1), ABORTED);
        CHECK.same("rivals come first", y.reason(1), 3);
        OptimisticStore z = forward(1);
        z.addConstraint(1, 0, 31, 0);
        z.begin();
        z.read(0, 0);
        z.begin();
        z.write(1, 0, 1);
        CHECK.same("commit", z.commit(1), ABORTED);
        CHECK.same("the constraint", z.reason(1), 4);
        CHECK.same("the rival stays", z.state(0), 0);
    }
}
