/** Stores at the edges that the document names. */
final class Stores {
    private Stores() {
    }

    static OptimisticStore empty() {
        return new OptimisticStore();
    }

    static OptimisticStore configured(int policy, int rule, int patience) {
        OptimisticStore x = new OptimisticStore();
        x.configure(policy, rule, patience);
        return x;
    }

    static OptimisticStore active(int count) {
        OptimisticStore x = new OptimisticStore();
        for (int number = 0; number < count; number++) {
            x.begin();
        }
        return x;
    }

    static OptimisticStore aborted(int count) {
        OptimisticStore x = new OptimisticStore();
        for (int number = 0; number < count; number++) {
            x.abort(x.begin());
        }
        return x;
    }

    /** Commit n writes n into key n % 32. */
    static OptimisticStore committed(int count) {
        OptimisticStore x = new OptimisticStore();
        for (int commit = 1; commit <= count; commit++) {
            int number = x.begin();
            x.write(number, commit % 32, commit);
            x.commit(number);
        }
        return x;
    }

    /** As many aborted transactions, then one that is active and one more. */
    static OptimisticStore activeAfter(int aborted) {
        OptimisticStore x = aborted(aborted);
        x.begin();
        x.begin();
        return x;
    }

    static OptimisticStore committedAfter(int aborted) {
        OptimisticStore x = activeAfter(aborted);
        x.commit(aborted);
        x.commit(aborted + 1);
        return x;
    }

    /** Transaction 0 is active, 1 committed, 2 aborted. */
    static OptimisticStore oneOfEach() {
        OptimisticStore x = active(3);
        x.commit(1);
        x.abort(2);
        return x;
    }

    /** Transaction 0 is active with this many reads of key 0. */
    static OptimisticStore operations(int count) {
        OptimisticStore x = active(1);
        for (int made = 0; made < count; made++) {
            x.read(0, 0);
        }
        return x;
    }

    /** Transaction 0, which is active, on a store with these values. */
    static OptimisticStore holding(String writes) {
        OptimisticStore x = new OptimisticStore();
        x.begin();
        Check.run(x, writes);
        return x;
    }

    static OptimisticStore text(String text) {
        OptimisticStore x = new OptimisticStore();
        Check.appendAll(x, text);
        return x;
    }

    static OptimisticStore constraints(int count) {
        OptimisticStore x = new OptimisticStore();
        for (int number = 0; number < count; number++) {
            x.addConstraint(2, number, number, 1);
        }
        return x;
    }

    /** Transaction 1, the second attempt of transaction 0, is active and holds the ticket. */
    static OptimisticStore ticket(int policy, int rule) {
        OptimisticStore x = configured(policy, rule, 1);
        x.abort(x.begin());
        x.retry(0);
        return x;
    }

    /** Something of everything: commits, a retried one, the ticket, active ones, a constraint, a text, a fault. */
    static OptimisticStore rich() {
        OptimisticStore x = configured(1, 2, 1);
        Check.run(x, "w0=5;w1=999;r4");
        Check.run(x, "a0+1;s0-3;w2=-999");
        Check.appendAll(x, "r1;q");
        Check.outcome(x::runScript);
        x.addConstraint(1, 0, 31, 500);
        x.abort(x.begin());
        x.abort(x.begin());
        x.retry(2);
        x.read(4, 0);
        x.begin();
        x.scan(5, 0, 9, 5);
        x.write(5, 0, 7);
        x.begin();
        x.write(6, 8, 100);
        x.read(6, 9);
        Check.appendAll(x, "w3=4;d0");
        return x;
    }
}
