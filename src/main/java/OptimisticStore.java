import java.util.Arrays;
import java.util.NoSuchElementException;

public final class OptimisticStore {
    public static final int ABSENT = -1000;
    public static final int BLOCKED = -1;
    public static final int ABORTED = -2;

    private static final int KEYS = 32;
    private static final int LEAST_VALUE = -999;
    private static final int GREATEST_VALUE = 999;
    private static final int MOST_COMMITS = 60;
    private static final int MOST_TRANSACTIONS = 80;
    private static final int MOST_ACTIVE = 6;
    private static final int MOST_OPERATIONS = 24;
    private static final int MOST_CONSTRAINTS = 3;
    private static final int MOST_CHARACTERS = 60;
    private static final int NOBODY = -1;

    private static final int STATE_ACTIVE = 0;
    private static final int STATE_COMMITTED = 1;
    private static final int STATE_ABORTED = 2;

    private static final int REASON_NONE = 0;
    private static final int REASON_KEY = 1;
    private static final int REASON_PREDICATE = 2;
    private static final int REASON_RIVAL = 3;
    private static final int REASON_CONSTRAINT = 4;
    private static final int REASON_GIVEN_UP = 5;
    private static final int REASON_REWOUND = 6;

    private static final int POLICY_BACKWARD = 0;
    private static final int POLICY_FORWARD = 1;
    private static final int RULE_SELF_LOSES = 0;
    private static final int RULE_RIVALS_LOSE = 1;
    private static final int RULE_BUSIER_WINS = 2;

    private static final int READ = 0;
    private static final int SCAN = 1;
    private static final int SUM = 2;
    private static final int WRITE = 3;
    private static final int REMOVE = 4;
    private static final int ADD = 5;

    private static final int SUM_AT_LEAST = 0;
    private static final int SUM_AT_MOST = 1;
    private static final int COUNT_AT_MOST = 2;

    private final History history;
    private final Transaction[] transactions;
    private final Constraint[] constraints;
    private final Script script;
    // The two rows below hold nothing between calls; they are kept so that no call makes new ones.
    private final int[] viewRow;
    private final int[] chainRow;
    private int begun;
    private int constraintCount;
    private int policy;
    private int victimRule;
    private int patience;
    private int holder;

    public OptimisticStore() {
        history = new History();
        transactions = new Transaction[MOST_TRANSACTIONS];
        constraints = new Constraint[MOST_CONSTRAINTS];
        script = new Script();
        viewRow = new int[KEYS];
        chainRow = new int[MOST_COMMITS + 1];
        policy = POLICY_BACKWARD;
        victimRule = RULE_SELF_LOSES;
        patience = 3;
        holder = NOBODY;
    }

    public void configure(int policy, int victimRule, int patience)
            throws IllegalArgumentException, IllegalStateException {
        if (!isBetween(policy, POLICY_BACKWARD, POLICY_FORWARD)
                || !isBetween(victimRule, RULE_SELF_LOSES, RULE_BUSIER_WINS)
                || !isBetween(patience, 1, 5)) {
            throw new IllegalArgumentException("policy, victim rule or patience is out of range");
        }
        if (countInState(STATE_ACTIVE) > 0) {
            throw new IllegalStateException("a transaction is active");
        }
        this.policy = policy;
        this.victimRule = victimRule;
        this.patience = patience;
    }

    public int begin() throws IllegalStateException {
        if (!canStart()) {
            throw new IllegalStateException("no further transaction can begin");
        }
        return start(1).number;
    }

    public int retry(int transaction) throws IndexOutOfBoundsException, IllegalStateException {
        Transaction old = find(transaction);
        if (old.state != STATE_ABORTED || old.retried || !canStart()) {
            throw new IllegalStateException("the transaction cannot be retried");
        }
        old.retried = true;
        return start(old.attemptNumber + 1).number;
    }

    public int read(int transaction, int key)
            throws IndexOutOfBoundsException, IllegalArgumentException, IllegalStateException {
        return operate(transaction, new Operation(READ, key, key, 0));
    }

    public int scan(int transaction, int low, int high, int least)
            throws IndexOutOfBoundsException, IllegalArgumentException, IllegalStateException {
        return operate(transaction, new Operation(SCAN, low, high, least));
    }

    public int sum(int transaction, int low, int high)
            throws IndexOutOfBoundsException, IllegalArgumentException, IllegalStateException {
        return operate(transaction, new Operation(SUM, low, high, LEAST_VALUE));
    }

    public void write(int transaction, int key, int value)
            throws IndexOutOfBoundsException, IllegalArgumentException, IllegalStateException {
        operate(transaction, new Operation(WRITE, key, key, value));
    }

    public void remove(int transaction, int key)
            throws IndexOutOfBoundsException, IllegalArgumentException, IllegalStateException {
        operate(transaction, new Operation(REMOVE, key, key, 0));
    }

    public int add(int transaction, int key, int difference)
            throws IndexOutOfBoundsException, IllegalArgumentException, IllegalStateException, ArithmeticException {
        return operate(transaction, new Operation(ADD, key, key, difference));
    }

    public int commit(int transaction) throws IndexOutOfBoundsException, IllegalStateException {
        Transaction found = find(transaction);
        if (found.state != STATE_ACTIVE || history.isFull()) {
            throw new IllegalStateException("the transaction cannot be committed");
        }
        return tryToCommit(found);
    }

    public void abort(int transaction) throws IndexOutOfBoundsException, IllegalStateException {
        endInAbort(findActive(transaction), REASON_GIVEN_UP);
    }

    public int clock() {
        return history.latest;
    }

    public int transactionCount() {
        return begun;
    }

    public int activeCount() {
        return countInState(STATE_ACTIVE);
    }

    public int ticketHolder() throws NoSuchElementException {
        if (holder == NOBODY) {
            throw new NoSuchElementException("nobody holds the ticket");
        }
        return holder;
    }

    public int state(int transaction) throws IndexOutOfBoundsException {
        return find(transaction).state;
    }

    public int attempt(int transaction) throws IndexOutOfBoundsException {
        return find(transaction).attemptNumber;
    }

    public int reason(int transaction) throws IndexOutOfBoundsException, IllegalStateException {
        Transaction found = find(transaction);
        if (found.state != STATE_ABORTED) {
            throw new IllegalStateException("the transaction is not aborted");
        }
        return found.abortReason;
    }

    public int commitOf(int transaction) throws IndexOutOfBoundsException, IllegalStateException {
        Transaction found = find(transaction);
        if (found.state != STATE_COMMITTED) {
            throw new IllegalStateException("the transaction is not committed");
        }
        return found.commitNumber;
    }

    public int operationCount(int transaction) throws IndexOutOfBoundsException {
        return find(transaction).operationsMade;
    }

    public int recordedKeys(int transaction) throws IndexOutOfBoundsException {
        return find(transaction).recorded;
    }

    public int predicateCount(int transaction) throws IndexOutOfBoundsException {
        return find(transaction).countPredicates();
    }

    public int writtenKeys(int transaction) throws IndexOutOfBoundsException {
        return find(transaction).written;
    }

    public boolean isStale(int transaction) throws IndexOutOfBoundsException, IllegalStateException {
        return history.stalenessOf(findActive(transaction)) != REASON_NONE;
    }

    public int rivals(int transaction) throws IndexOutOfBoundsException, IllegalStateException {
        return countRivals(findActive(transaction));
    }

    public int value(int key) throws IllegalArgumentException {
        requireKey(key);
        return history.newest()[key];
    }

    public int valueAt(int key, int commit) throws IllegalArgumentException, IndexOutOfBoundsException {
        requireKey(key);
        requireCommit(commit, 0);
        return history.storeAfter(commit)[key];
    }

    public int writerOf(int key) throws IllegalArgumentException {
        requireKey(key);
        return history.latestWriter(key);
    }

    public int transactionOf(int commit) throws IndexOutOfBoundsException {
        requireCommit(commit, 1);
        Transaction author = history.authorOf(commit);
        return author == null ? NOBODY : author.number;
    }

    public int dependency(int earlier, int later) throws IndexOutOfBoundsException, IllegalArgumentException {
        requireCommit(earlier, 1);
        requireCommit(later, 1);
        if (earlier >= later) {
            throw new IllegalArgumentException("the first commit is not the earlier one");
        }
        return history.link(earlier, later);
    }

    public int longestChain() {
        int longest = 0;
        for (int later = 1; later <= history.latest; later++) {
            chainRow[later] = 1;
            for (int earlier = 1; earlier < later; earlier++) {
                if (chainRow[earlier] >= chainRow[later] && history.link(earlier, later) != 0) {
                    chainRow[later] = chainRow[earlier] + 1;
                }
            }
            longest = Math.max(longest, chainRow[later]);
        }
        return longest;
    }

    public int serialFaults() {
        int faults = 0;
        for (int commit = 1; commit <= history.latest; commit++) {
            Transaction author = history.authorOf(commit);
            System.arraycopy(history.storeAfter(commit - 1), 0, viewRow, 0, KEYS);
            if (author != null && !author.repeatsAlikeOn(viewRow)) {
                faults++;
            }
        }
        return faults;
    }

    public int rewind(int commit) throws IndexOutOfBoundsException, IllegalStateException {
        requireCommit(commit, 0);
        if (countInState(STATE_ACTIVE) > 0) {
            throw new IllegalStateException("a transaction is active");
        }
        return history.takeBackAfter(commit);
    }

    public int addConstraint(int kind, int low, int high, int bound)
            throws IllegalArgumentException, IllegalStateException {
        if (!isBetween(kind, SUM_AT_LEAST, COUNT_AT_MOST) || !isRange(low, high)) {
            throw new IllegalArgumentException("kind, low or high is out of range");
        }
        Constraint added = new Constraint(kind, low, high, bound);
        if (constraintCount >= MOST_CONSTRAINTS || added.isViolatedBy(history.newest())) {
            throw new IllegalStateException("the constraint cannot be added");
        }
        constraints[constraintCount] = added;
        constraintCount++;
        return constraintCount - 1;
    }

    public int clearConstraints() {
        int removed = constraintCount;
        constraintCount = 0;
        return removed;
    }

    public int aborts(int reason) throws IllegalArgumentException {
        if (!isBetween(reason, REASON_KEY, REASON_REWOUND)) {
            throw new IllegalArgumentException("the reason is out of range");
        }
        int count = 0;
        for (int number = 0; number < begun; number++) {
            Transaction each = transactions[number];
            if (each != null && each.state == STATE_ABORTED && each.abortReason == reason) {
                count++;
            }
        }
        return count;
    }

    public double averageAttempts() throws ArithmeticException {
        int committed = countInState(STATE_COMMITTED);
        if (committed == 0) {
            throw new ArithmeticException("no transaction is committed");
        }
        int total = 0;
        for (int number = 0; number < begun; number++) {
            Transaction each = transactions[number];
            if (each != null && each.state == STATE_COMMITTED) {
                total += each.attemptNumber;
            }
        }
        return (double) total / (double) committed;
    }

    public float abortRate() throws ArithmeticException {
        int ended = begun - countInState(STATE_ACTIVE);
        if (ended == 0) {
            throw new ArithmeticException("no transaction has ended");
        }
        return (float) countInState(STATE_ABORTED) / (float) ended;
    }

    public int appendCharacter(int character) throws IllegalArgumentException, IllegalStateException {
        if (!isBetween(character, 33, 126)) {
            throw new IllegalArgumentException("the character is out of range");
        }
        if (script.length >= MOST_CHARACTERS) {
            throw new IllegalStateException("the text is full");
        }
        return script.extend((char) character);
    }

    public int runScript() throws IllegalArgumentException, IllegalStateException {
        if (!script.parseAndEmpty()) {
            throw new IllegalArgumentException("the text has a fault");
        }
        if (!canStart() || history.isFull()) {
            throw new IllegalStateException("no further transaction can begin or be committed");
        }
        Transaction started = start(1);
        return performSteps(started) ? tryToCommit(started) : ABORTED;
    }

    public int faultPosition() {
        return script.fault;
    }

    private static boolean isBetween(int number, int least, int greatest) {
        return number >= least && number <= greatest;
    }

    private static boolean isRange(int low, int high) {
        return low >= 0 && low <= high && high < KEYS;
    }

    private static int totalIn(int[] store, int low, int high) {
        int total = 0;
        for (int key = low; key <= high; key++) {
            if (store[key] != ABSENT) {
                total += store[key];
            }
        }
        return total;
    }

    private static int countIn(int[] store, int low, int high, int least) {
        int count = 0;
        for (int key = low; key <= high; key++) {
            if (store[key] != ABSENT && store[key] >= least) {
                count++;
            }
        }
        return count;
    }

    private static void requireKey(int key) {
        if (!isRange(key, key)) {
            throw new IllegalArgumentException("the key is out of range");
        }
    }

    private void requireCommit(int commit, int first) {
        if (!isBetween(commit, first, history.latest)) {
            throw new IndexOutOfBoundsException("there is no such commit");
        }
    }

    private Transaction find(int number) {
        Transaction found = number >= 0 && number < begun ? transactions[number] : null;
        if (found == null) {
            throw new IndexOutOfBoundsException("there is no such transaction");
        }
        return found;
    }

    private Transaction findActive(int number) {
        Transaction found = find(number);
        if (found.state != STATE_ACTIVE) {
            throw new IllegalStateException("the transaction is not active");
        }
        return found;
    }

    private int countInState(int state) {
        int count = 0;
        for (int number = 0; number < begun; number++) {
            Transaction each = transactions[number];
            if (each != null && each.state == state) {
                count++;
            }
        }
        return count;
    }

    private boolean canStart() {
        return begun < MOST_TRANSACTIONS && countInState(STATE_ACTIVE) < MOST_ACTIVE;
    }

    private Transaction start(int attemptNumber) {
        Transaction started = new Transaction(begun, attemptNumber);
        if (begun < MOST_TRANSACTIONS) {
            transactions[begun] = started;
            begun++;
        }
        if (holder == NOBODY && attemptNumber > patience) {
            holder = started.number;
        }
        return started;
    }

    private int operate(int number, Operation operation) {
        Transaction found = find(number);
        if (!operation.isWellFormed()) {
            throw new IllegalArgumentException("a number is out of range");
        }
        if (!found.canOperate()) {
            throw new IllegalStateException("the transaction cannot make an operation");
        }
        if (!operation.staysInRange(viewOf(found))) {
            throw new ArithmeticException("the new value would be out of range");
        }
        return perform(found, operation);
    }

    private int perform(Transaction transaction, Operation operation) {
        int result = operation.carryOut(viewOf(transaction));
        transaction.keep(operation, history.latest, result);
        return result;
    }

    private int[] viewOf(Transaction transaction) {
        System.arraycopy(history.newest(), 0, viewRow, 0, KEYS);
        transaction.applyWrites(viewRow);
        return viewRow;
    }

    private int tryToCommit(Transaction transaction) {
        if (isBlocked(transaction)) {
            return BLOCKED;
        }
        int reason = reasonToAbort(transaction);
        if (reason != REASON_NONE) {
            endInAbort(transaction, reason);
            return ABORTED;
        }
        if (policy == POLICY_FORWARD) {
            abortRivals(transaction);
        }
        history.append(transaction);
        releaseTicket(transaction);
        return transaction.commitNumber;
    }

    private boolean isBlocked(Transaction transaction) {
        return holder >= 0 && holder < begun && isRival(transaction, transactions[holder]);
    }

    private int reasonToAbort(Transaction transaction) {
        if (policy == POLICY_BACKWARD) {
            int staleness = history.stalenessOf(transaction);
            if (staleness != REASON_NONE) {
                return staleness;
            }
        } else if (losesToRivals(transaction)) {
            return REASON_RIVAL;
        }
        return violatesConstraint(viewOf(transaction)) ? REASON_CONSTRAINT : REASON_NONE;
    }

    private boolean losesToRivals(Transaction transaction) {
        if (holder == transaction.number || victimRule == RULE_RIVALS_LOSE) {
            return false;
        }
        // By rule 0 every rival beats the transaction, by rule 2 only one with more operations does.
        int operationsToBeat = victimRule == RULE_BUSIER_WINS ? transaction.operationsMade : -1;
        for (int number = 0; number < begun; number++) {
            Transaction other = transactions[number];
            if (other != null && other.operationsMade > operationsToBeat && isRival(transaction, other)) {
                return true;
            }
        }
        return false;
    }

    private boolean violatesConstraint(int[] store) {
        for (int number = 0; number < constraintCount; number++) {
            Constraint each = constraints[number];
            if (each != null && each.isViolatedBy(store)) {
                return true;
            }
        }
        return false;
    }

    private boolean isRival(Transaction writer, Transaction other) {
        return other != null && other != writer && other.state == STATE_ACTIVE
                && other.isHitBy(writer, history.newest());
    }

    private int countRivals(Transaction transaction) {
        int count = 0;
        for (int number = 0; number < begun; number++) {
            if (isRival(transaction, transactions[number])) {
                count++;
            }
        }
        return count;
    }

    private void abortRivals(Transaction transaction) {
        for (int number = 0; number < begun; number++) {
            Transaction other = transactions[number];
            if (other != null && isRival(transaction, other)) {
                endInAbort(other, REASON_RIVAL);
            }
        }
    }

    private void endInAbort(Transaction transaction, int reason) {
        transaction.becomeAborted(reason);
        releaseTicket(transaction);
    }

    private void releaseTicket(Transaction transaction) {
        if (holder == transaction.number) {
            holder = NOBODY;
        }
    }

    private boolean performSteps(Transaction transaction) {
        for (int index = 0; index < script.stepCount; index++) {
            Operation step = script.stepAt(index);
            if (step == null || !isAllowed(transaction, step)) {
                endInAbort(transaction, REASON_GIVEN_UP);
                return false;
            }
            perform(transaction, step);
        }
        return true;
    }

    private boolean isAllowed(Transaction transaction, Operation operation) {
        return operation.isWellFormed() && transaction.canOperate() && operation.staysInRange(viewOf(transaction));
    }

    /** One operation of a transaction; a scan or a sum is also the predicate that it records. */
    private static final class Operation {
        final int kind;
        final int low;
        final int high;
        // The value of a write, the difference of an add, the least value of a scan or sum.
        final int number;
        int madeAt;
        int result;

        Operation(int kind, int low, int high, int number) {
            this.kind = kind;
            this.low = low;
            this.high = high;
            this.number = number;
        }

        boolean isWellFormed() {
            return isRange(low, high) && isBetween(number, LEAST_VALUE, GREATEST_VALUE);
        }

        boolean isPredicate() {
            return kind == SCAN || kind == SUM;
        }

        boolean makesRead() {
            return kind == READ || kind == ADD;
        }

        boolean makesWrite() {
            return kind == WRITE || kind == REMOVE || kind == ADD;
        }

        boolean staysInRange(int[] view) {
            return kind != ADD || isBetween(sumWith(view[low]), LEAST_VALUE, GREATEST_VALUE);
        }

        int carryOut(int[] view) {
            switch (kind) {
                case READ:
                    return view[low];
                case SCAN:
                    return countIn(view, low, high, number);
                case SUM:
                    return totalIn(view, low, high);
                case REMOVE:
                    view[low] = ABSENT;
                    return ABSENT;
                case ADD:
                    view[low] = sumWith(view[low]);
                    return view[low];
                default:
                    view[low] = number;
                    return number;
            }
        }

        boolean isTouchedBy(Transaction writer, int[] before) {
            if (!isPredicate()) {
                return false;
            }
            for (int key = low; key <= high; key++) {
                if (writer.hasWritten(key) && (admits(before[key]) || admits(writer.newValues[key]))) {
                    return true;
                }
            }
            return false;
        }

        private int sumWith(int value) {
            return (value == ABSENT ? 0 : value) + number;
        }

        private boolean admits(int value) {
            return value != ABSENT && value >= number;
        }
    }

    private static final class Transaction {
        final int number;
        final int attemptNumber;
        final Operation[] operations;
        final int[] recordedAt;
        final int[] newValues;
        int operationsMade;
        int recorded;
        int written;
        int state;
        int abortReason;
        int commitNumber;
        boolean retried;

        Transaction(int number, int attemptNumber) {
            this.number = number;
            this.attemptNumber = attemptNumber;
            operations = new Operation[MOST_OPERATIONS];
            recordedAt = new int[KEYS];
            newValues = new int[KEYS];
            state = STATE_ACTIVE;
        }

        boolean canOperate() {
            return state == STATE_ACTIVE && operationsMade < MOST_OPERATIONS;
        }

        boolean hasRecorded(int key) {
            return (recorded & (1 << key)) != 0;
        }

        boolean hasWritten(int key) {
            return (written & (1 << key)) != 0;
        }

        void keep(Operation operation, int clockNow, int result) {
            operation.madeAt = clockNow;
            operation.result = result;
            if (operationsMade < MOST_OPERATIONS) {
                operations[operationsMade] = operation;
                operationsMade++;
            }
            int key = operation.low;
            if (operation.makesRead() && !hasRecorded(key) && !hasWritten(key)) {
                recorded |= 1 << key;
                recordedAt[key] = clockNow;
            }
            if (operation.makesWrite()) {
                written |= 1 << key;
                newValues[key] = result;
            }
        }

        int countPredicates() {
            int count = 0;
            for (int index = 0; index < operationsMade; index++) {
                Operation each = operations[index];
                if (each != null && each.isPredicate()) {
                    count++;
                }
            }
            return count;
        }

        void applyWrites(int[] store) {
            for (int key = 0; key < KEYS; key++) {
                if (hasWritten(key)) {
                    store[key] = newValues[key];
                }
            }
        }

        boolean isHitBy(Transaction writer, int[] before) {
            if ((recorded & writer.written) != 0) {
                return true;
            }
            for (int index = 0; index < operationsMade; index++) {
                Operation each = operations[index];
                if (each != null && each.isTouchedBy(writer, before)) {
                    return true;
                }
            }
            return false;
        }

        boolean repeatsAlikeOn(int[] view) {
            for (int index = 0; index < operationsMade; index++) {
                Operation each = operations[index];
                if (each != null && each.carryOut(view) != each.result) {
                    return false;
                }
            }
            return true;
        }

        void becomeAborted(int reason) {
            state = STATE_ABORTED;
            abortReason = reason;
        }
    }

    /** The commits that stand, with the store after each of them; number 0 is the empty store at first. */
    private static final class History {
        private final int[][] stores;
        private final Transaction[] authors;
        int latest;

        History() {
            stores = new int[MOST_COMMITS + 1][KEYS];
            authors = new Transaction[MOST_COMMITS + 1];
            Arrays.fill(stores[0], ABSENT);
        }

        boolean isFull() {
            return latest >= MOST_COMMITS;
        }

        int[] storeAfter(int commit) {
            return stores[commit];
        }

        int[] newest() {
            return stores[latest];
        }

        Transaction authorOf(int commit) {
            return authors[commit];
        }

        void append(Transaction author) {
            if (isFull()) {
                return;
            }
            System.arraycopy(stores[latest], 0, stores[latest + 1], 0, KEYS);
            latest++;
            author.applyWrites(stores[latest]);
            authors[latest] = author;
            author.state = STATE_COMMITTED;
            author.commitNumber = latest;
        }

        int takeBackAfter(int commit) {
            int taken = latest - commit;
            for (int later = commit + 1; later <= latest; later++) {
                Transaction author = authors[later];
                if (author != null) {
                    author.becomeAborted(REASON_REWOUND);
                }
            }
            latest = commit;
            return taken;
        }

        int latestWriter(int key) {
            for (int commit = latest; commit > 0; commit--) {
                if ((writtenBy(commit) & (1 << key)) != 0) {
                    return commit;
                }
            }
            return 0;
        }

        int stalenessOf(Transaction transaction) {
            for (int key = 0; key < KEYS; key++) {
                if (transaction.hasRecorded(key) && latestWriter(key) > transaction.recordedAt[key]) {
                    return REASON_KEY;
                }
            }
            for (int index = 0; index < transaction.operationsMade; index++) {
                if (isTouchedSince(transaction.operations[index])) {
                    return REASON_PREDICATE;
                }
            }
            return REASON_NONE;
        }

        int link(int earlier, int later) {
            Transaction first = authors[earlier];
            Transaction second = authors[later];
            if (first == null || second == null) {
                return 0;
            }
            int kinds = 0;
            if (readsFrom(earlier, later, second.recorded)) {
                kinds += 1;
            }
            if ((first.written & second.written) != 0) {
                kinds += 2;
            }
            if (first.isHitBy(second, stores[later - 1])) {
                kinds += 4;
            }
            return kinds;
        }

        private int writtenBy(int commit) {
            Transaction author = authors[commit];
            return author == null ? 0 : author.written;
        }

        private boolean isTouchedSince(Operation operation) {
            if (operation == null) {
                return false;
            }
            for (int commit = operation.madeAt + 1; commit <= latest; commit++) {
                Transaction author = authors[commit];
                if (author != null && operation.isTouchedBy(author, stores[commit - 1])) {
                    return true;
                }
            }
            return false;
        }

        private boolean readsFrom(int earlier, int later, int recorded) {
            int keys = recorded & writtenBy(earlier);
            for (int between = earlier + 1; between < later; between++) {
                keys &= ~writtenBy(between);
            }
            return keys != 0;
        }
    }

    private static final class Constraint {
        private final int kind;
        private final int low;
        private final int high;
        private final int bound;

        Constraint(int kind, int low, int high, int bound) {
            this.kind = kind;
            this.low = low;
            this.high = high;
            this.bound = bound;
        }

        boolean isViolatedBy(int[] store) {
            if (kind == COUNT_AT_MOST) {
                return countIn(store, low, high, LEAST_VALUE) > bound;
            }
            int total = totalIn(store, low, high);
            return kind == SUM_AT_MOST ? total > bound : total < bound;
        }
    }

    /** The text and its reader: no character is passed over before it is known to continue a script. */
    private static final class Script {
        // A step takes two characters at least.
        private static final int MOST_STEPS = MOST_CHARACTERS / 2;
        private static final int NO_NUMBER = -1;
        private static final char END = 0;

        private final char[] text;
        private final Operation[] steps;
        private int position;
        int length;
        int stepCount;
        int fault;

        Script() {
            text = new char[MOST_CHARACTERS];
            steps = new Operation[MOST_STEPS];
            fault = -1;
        }

        int extend(char character) {
            if (length < MOST_CHARACTERS) {
                text[length] = character;
                length++;
            }
            return length;
        }

        Operation stepAt(int index) {
            return index >= 0 && index < stepCount ? steps[index] : null;
        }

        boolean parseAndEmpty() {
            position = 0;
            stepCount = 0;
            boolean correct = parseSteps();
            fault = correct ? -1 : position;
            length = 0;
            return correct;
        }

        private boolean parseSteps() {
            for (int count = 0; count < MOST_STEPS; count++) {
                Operation step = parseStep();
                if (step == null) {
                    return false;
                }
                steps[count] = step;
                stepCount = count + 1;
                if (position == length) {
                    return true;
                }
                if (!pass(';')) {
                    return false;
                }
            }
            return false;
        }

        private Operation parseStep() {
            int kind = kindOf(current());
            if (kind == NO_NUMBER) {
                return null;
            }
            position++;
            int key = parseKey();
            if (key == NO_NUMBER) {
                return null;
            }
            switch (kind) {
                case WRITE:
                    return parseWrite(key);
                case ADD:
                    return parseAdd(key);
                case SUM:
                    return parseSum(key);
                default:
                    return new Operation(kind, key, key, 0);
            }
        }

        private static int kindOf(char letter) {
            if (letter == 'r') {
                return READ;
            }
            if (letter == 'w') {
                return WRITE;
            }
            if (letter == 'd') {
                return REMOVE;
            }
            if (letter == 'a') {
                return ADD;
            }
            return letter == 's' ? SUM : NO_NUMBER;
        }

        private Operation parseWrite(int key) {
            if (!pass('=')) {
                return null;
            }
            boolean negative = pass('-');
            return parseDigits(WRITE, key, negative);
        }

        private Operation parseAdd(int key) {
            boolean negative = pass('-');
            if (!negative && !pass('+')) {
                return null;
            }
            return parseDigits(ADD, key, negative);
        }

        private Operation parseSum(int low) {
            if (!pass('-')) {
                return null;
            }
            int high = parseKey();
            return high == NO_NUMBER ? null : new Operation(SUM, low, high, LEAST_VALUE);
        }

        private Operation parseDigits(int kind, int key, boolean negative) {
            int number = 0;
            int count = 0;
            while (count < 3 && isDigit(current())) {
                number = number * 10 + (current() - '0');
                position++;
                count++;
            }
            return count == 0 ? null : new Operation(kind, key, key, negative ? -number : number);
        }

        private int parseKey() {
            if (!isDigit(current())) {
                return NO_NUMBER;
            }
            int key = current() - '0';
            position++;
            if (!isDigit(current())) {
                return key;
            }
            key = key * 10 + (current() - '0');
            if (key >= KEYS) {
                return NO_NUMBER;
            }
            position++;
            return key;
        }

        private boolean pass(char expected) {
            if (current() != expected) {
                return false;
            }
            position++;
            return true;
        }

        private char current() {
            return position < length ? text[position] : END;
        }

        private static boolean isDigit(char character) {
            return character >= '0' && character <= '9';
        }
    }
}
