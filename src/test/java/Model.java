import java.util.ArrayList;
import java.util.List;
import java.util.Map;
import java.util.NoSuchElementException;
import java.util.TreeMap;
import java.util.function.IntPredicate;
import java.util.regex.Matcher;
import java.util.regex.Pattern;

/** A second reading of the document, as plain as can be, to compare the class with. */
final class Model {
    private static final String KEY = "(?:[012][0-9]?|3[01]?|[4-9])";
    private static final String STEP = "(?:[rd]" + KEY + "|w" + KEY + "=-?[0-9]{1,3}|a" + KEY
            + "[+-][0-9]{1,3}|s" + KEY + "-" + KEY + ")";
    private static final Pattern SCRIPT = Pattern.compile(STEP + "(?:;" + STEP + ")*");

    private record Predicate(int low, int high, int least, int clock) { }

    /** What an operation gave, and how to make it again on a view. */
    private record Made(char kind, int a, int b, int c, int result) { }

    private static final class Txn {
        int attempt;
        int state;
        int reason;
        int commit;
        boolean retried;
        final List<Made> made = new ArrayList<>();
        final Map<Integer, Integer> records = new TreeMap<>();
        final List<Predicate> predicates = new ArrayList<>();
        // A removal is a write of null.
        final Map<Integer, Integer> writes = new TreeMap<>();
    }

    private record Limit(int kind, int low, int high, int bound) { }

    private final List<Txn> txns = new ArrayList<>();
    private final List<Txn> commits = new ArrayList<>();
    private final List<Limit> limits = new ArrayList<>();
    private int policy;
    private int rule;
    private int patience = 3;
    private Txn holder;
    private String text = "";
    private int fault = -1;

    private static void argument(boolean good) {
        if (!good) {
            throw new IllegalArgumentException();
        }
    }

    private static void state(boolean good) {
        if (!good) {
            throw new IllegalStateException();
        }
    }

    private static void index(boolean good) {
        if (!good) {
            throw new IndexOutOfBoundsException();
        }
    }

    private Txn txn(int number) {
        index(number >= 0 && number < txns.size());
        return txns.get(number);
    }

    private static void key(int key) {
        argument(key >= 0 && key <= 31);
    }

    private static void range(int low, int high) {
        key(low);
        key(high);
        argument(low <= high);
    }

    private static void number(int number) {
        argument(number >= -999 && number <= 999);
    }

    private static void apply(Map<Integer, Integer> store, Txn txn) {
        txn.writes.forEach((key, value) -> {
            if (value == null) {
                store.remove(key);
            } else {
                store.put(key, value);
            }
        });
    }

    private Map<Integer, Integer> storeAfter(int commit) {
        Map<Integer, Integer> store = new TreeMap<>();
        for (int number = 1; number <= commit; number++) {
            apply(store, commits.get(number - 1));
        }
        return store;
    }

    private Map<Integer, Integer> view(Txn txn) {
        Map<Integer, Integer> store = storeAfter(clock());
        apply(store, txn);
        return store;
    }

    private static boolean touches(Predicate predicate, int key, Integer before, Integer after) {
        return key >= predicate.low && key <= predicate.high
                && (before != null && before >= predicate.least || after != null && after >= predicate.least);
    }

    private static boolean hits(Txn writer, Map<Integer, Integer> before, Txn other) {
        for (int key : writer.writes.keySet()) {
            if (other.records.containsKey(key)) {
                return true;
            }
            for (Predicate predicate : other.predicates) {
                if (touches(predicate, key, before.get(key), writer.writes.get(key))) {
                    return true;
                }
            }
        }
        return false;
    }

    void configure(int newPolicy, int newRule, int newPatience) {
        argument(newPolicy == 0 || newPolicy == 1);
        argument(newRule == 0 || newRule == 1 || newRule == 2);
        argument(newPatience >= 1 && newPatience <= 5);
        state(activeCount() == 0);
        policy = newPolicy;
        rule = newRule;
        patience = newPatience;
    }

    int begin() {
        state(activeCount() < 6 && txns.size() < 80);
        return start(1);
    }

    private int start(int attempt) {
        Txn txn = new Txn();
        txn.attempt = attempt;
        txns.add(txn);
        if (attempt > patience && holder == null) {
            holder = txn;
        }
        return txns.size() - 1;
    }

    int retry(int number) {
        Txn old = txn(number);
        state(old.state == 2);
        state(!old.retried);
        state(activeCount() < 6 && txns.size() < 80);
        old.retried = true;
        return start(old.attempt + 1);
    }

    private static void open(Txn txn) {
        state(txn.state == 0 && txn.made.size() != 24);
    }

    private static int repeat(Made made, Map<Integer, Integer> view) {
        int result = 0;
        switch (made.kind) {
            case 'r' -> result = view.getOrDefault(made.a, -1000);
            case 'c' -> {
                for (int key = made.a; key <= made.b; key++) {
                    result += view.containsKey(key) && view.get(key) >= made.c ? 1 : 0;
                }
            }
            case 's' -> {
                for (int key = made.a; key <= made.b; key++) {
                    result += view.getOrDefault(key, 0);
                }
            }
            case 'w' -> view.put(made.a, made.b);
            case 'd' -> view.remove(made.a);
            default -> {
                result = view.getOrDefault(made.a, 0) + made.b;
                view.put(made.a, result);
            }
        }
        return result;
    }

    private int make(Txn txn, char kind, int a, int b, int c) {
        int result = repeat(new Made(kind, a, b, c, 0), view(txn));
        txn.made.add(new Made(kind, a, b, c, result));
        return result;
    }

    private void record(Txn txn, int key) {
        if (!txn.writes.containsKey(key)) {
            txn.records.putIfAbsent(key, clock());
        }
    }

    int read(int number, int key) {
        Txn txn = txn(number);
        key(key);
        open(txn);
        record(txn, key);
        return make(txn, 'r', key, 0, 0);
    }

    int scan(int number, int low, int high, int least) {
        Txn txn = txn(number);
        range(low, high);
        number(least);
        open(txn);
        txn.predicates.add(new Predicate(low, high, least, clock()));
        return make(txn, 'c', low, high, least);
    }

    int sum(int number, int low, int high) {
        Txn txn = txn(number);
        range(low, high);
        open(txn);
        txn.predicates.add(new Predicate(low, high, -999, clock()));
        return make(txn, 's', low, high, 0);
    }

    void write(int number, int key, int value) {
        Txn txn = txn(number);
        key(key);
        number(value);
        open(txn);
        make(txn, 'w', key, value, 0);
        txn.writes.put(key, value);
    }

    void remove(int number, int key) {
        Txn txn = txn(number);
        key(key);
        open(txn);
        make(txn, 'd', key, 0, 0);
        txn.writes.put(key, null);
    }

    int add(int number, int key, int difference) {
        Txn txn = txn(number);
        key(key);
        number(difference);
        open(txn);
        int sum = view(txn).getOrDefault(key, 0) + difference;
        if (sum > 999 || sum < -999) {
            throw new ArithmeticException();
        }
        record(txn, key);
        make(txn, 'a', key, difference, 0);
        txn.writes.put(key, sum);
        return sum;
    }

    int commit(int number) {
        Txn txn = txn(number);
        state(txn.state == 0);
        state(commits.size() < 60);
        Map<Integer, Integer> now = storeAfter(clock());
        if (holder != null && holder != txn && hits(txn, now, holder)) {
            return -1;
        }
        List<Txn> rivals = rivalsOf(txn);
        if (policy == 0 && staleness(txn) != 0) {
            return lose(txn, staleness(txn));
        }
        if (policy == 1 && !rivals.isEmpty() && holder != txn) {
            boolean busier = rivals.stream().anyMatch(rival -> rival.made.size() > txn.made.size());
            if (rule == 0 || rule == 2 && busier) {
                return lose(txn, 3);
            }
        }
        for (Limit limit : limits) {
            if (violated(limit, view(txn))) {
                return lose(txn, 4);
            }
        }
        if (policy == 1) {
            rivals.forEach(rival -> lose(rival, 3));
        }
        commits.add(txn);
        txn.state = 1;
        txn.commit = commits.size();
        if (holder == txn) {
            holder = null;
        }
        return txn.commit;
    }

    private int lose(Txn txn, int reason) {
        txn.state = 2;
        txn.reason = reason;
        if (holder == txn) {
            holder = null;
        }
        return -2;
    }

    private static boolean violated(Limit limit, Map<Integer, Integer> store) {
        long sum = 0;
        long count = 0;
        for (int key = limit.low; key <= limit.high; key++) {
            if (store.containsKey(key)) {
                sum += store.get(key);
                count++;
            }
        }
        return switch (limit.kind) {
            case 0 -> !(sum >= limit.bound);
            case 1 -> !(sum <= limit.bound);
            default -> !(count <= limit.bound);
        };
    }

    private int staleness(Txn txn) {
        int found = 0;
        for (int commit = 1; commit <= clock(); commit++) {
            Txn writer = commits.get(commit - 1);
            Map<Integer, Integer> before = storeAfter(commit - 1);
            for (int key : writer.writes.keySet()) {
                if (txn.records.containsKey(key) && txn.records.get(key) < commit) {
                    return 1;
                }
                for (Predicate predicate : txn.predicates) {
                    if (predicate.clock < commit
                            && touches(predicate, key, before.get(key), writer.writes.get(key))) {
                        found = 2;
                    }
                }
            }
        }
        return found;
    }

    private List<Txn> rivalsOf(Txn txn) {
        Map<Integer, Integer> now = storeAfter(clock());
        return txns.stream().filter(other -> other != txn && other.state == 0 && hits(txn, now, other)).toList();
    }

    void abort(int number) {
        Txn txn = txn(number);
        state(txn.state == 0);
        lose(txn, 5);
    }

    int clock() {
        return commits.size();
    }

    int transactionCount() {
        return txns.size();
    }

    int activeCount() {
        return (int) txns.stream().filter(txn -> txn.state == 0).count();
    }

    int ticketHolder() {
        if (holder == null) {
            throw new NoSuchElementException();
        }
        return txns.indexOf(holder);
    }

    int state(int number) {
        return txn(number).state;
    }

    int attempt(int number) {
        return txn(number).attempt;
    }

    int reason(int number) {
        Txn txn = txn(number);
        state(txn.state == 2);
        return txn.reason;
    }

    int commitOf(int number) {
        Txn txn = txn(number);
        state(txn.state == 1);
        return txn.commit;
    }

    int operationCount(int number) {
        return txn(number).made.size();
    }

    int recordedKeys(int number) {
        return bits(txn(number).records);
    }

    int predicateCount(int number) {
        return txn(number).predicates.size();
    }

    int writtenKeys(int number) {
        return bits(txn(number).writes);
    }

    private static int bits(Map<Integer, Integer> keys) {
        return (int) keys.keySet().stream().mapToLong(key -> 1L << key).sum();
    }

    boolean isStale(int number) {
        Txn txn = txn(number);
        state(txn.state == 0);
        return staleness(txn) != 0;
    }

    int rivals(int number) {
        Txn txn = txn(number);
        state(txn.state == 0);
        return rivalsOf(txn).size();
    }

    int value(int key) {
        key(key);
        return storeAfter(clock()).getOrDefault(key, -1000);
    }

    int valueAt(int key, int commit) {
        key(key);
        index(commit >= 0 && commit <= clock());
        return storeAfter(commit).getOrDefault(key, -1000);
    }

    int writerOf(int key) {
        key(key);
        return writerBefore(key, clock() + 1);
    }

    private int writerBefore(int key, int end) {
        int writer = 0;
        for (int commit = 1; commit < end; commit++) {
            writer = commits.get(commit - 1).writes.containsKey(key) ? commit : writer;
        }
        return writer;
    }

    int transactionOf(int commit) {
        index(commit >= 1 && commit <= clock());
        return txns.indexOf(commits.get(commit - 1));
    }

    int dependency(int earlier, int later) {
        index(earlier >= 1 && earlier <= clock());
        index(later >= 1 && later <= clock());
        argument(earlier < later);
        Txn first = commits.get(earlier - 1);
        Txn second = commits.get(later - 1);
        IntPredicate latest = key -> writerBefore(key, later) == earlier;
        boolean one = second.records.keySet().stream().anyMatch(latest::test);
        boolean two = first.writes.keySet().stream().anyMatch(second.writes::containsKey);
        boolean four = hits(second, storeAfter(later - 1), first);
        return (one ? 1 : 0) + (two ? 2 : 0) + (four ? 4 : 0);
    }

    int longestChain() {
        int[] best = new int[clock() + 1];
        int longest = 0;
        for (int first = clock(); first >= 1; first--) {
            for (int next = first + 1; next <= clock(); next++) {
                best[first] = Math.max(best[first], dependency(first, next) == 0 ? 0 : best[next]);
            }
            best[first]++;
            longest = Math.max(longest, best[first]);
        }
        return longest;
    }

    int serialFaults() {
        int faults = 0;
        for (int commit = 1; commit <= clock(); commit++) {
            Map<Integer, Integer> view = storeAfter(commit - 1);
            boolean faulty = false;
            for (Made made : commits.get(commit - 1).made) {
                faulty |= repeat(made, view) != made.result;
            }
            faults += faulty ? 1 : 0;
        }
        return faults;
    }

    int rewind(int commit) {
        index(commit >= 0 && commit <= clock());
        state(activeCount() == 0);
        int taken = 0;
        while (clock() > commit) {
            lose(commits.remove(clock() - 1), 6);
            taken++;
        }
        return taken;
    }

    int addConstraint(int kind, int low, int high, int bound) {
        argument(kind >= 0 && kind <= 2);
        range(low, high);
        Limit limit = new Limit(kind, low, high, bound);
        state(limits.size() < 3 && !violated(limit, storeAfter(clock())));
        limits.add(limit);
        return limits.size() - 1;
    }

    int clearConstraints() {
        int removed = limits.size();
        limits.clear();
        return removed;
    }

    int aborts(int reason) {
        argument(reason >= 1 && reason <= 6);
        return (int) txns.stream().filter(txn -> txn.state == 2 && txn.reason == reason).count();
    }

    double averageAttempts() {
        if (commits.isEmpty()) {
            throw new ArithmeticException();
        }
        return (double) commits.stream().mapToInt(txn -> txn.attempt).sum() / (double) commits.size();
    }

    float abortRate() {
        if (activeCount() == txns.size()) {
            throw new ArithmeticException();
        }
        return (float) txns.stream().filter(txn -> txn.state == 2).count() / (float) (txns.size() - activeCount());
    }

    int appendCharacter(int character) {
        argument(character >= 33 && character <= 126);
        state(text.length() < 60);
        text += (char) character;
        return text.length();
    }

    /** The longest beginning of the text that the expression could go on from tells where the fault is. */
    static int faultOf(String text) {
        if (SCRIPT.matcher(text).matches()) {
            return -1;
        }
        for (int length = 1; length <= text.length(); length++) {
            Matcher matcher = SCRIPT.matcher(text.substring(0, length));
            if (!matcher.matches() && !matcher.hitEnd()) {
                return length - 1;
            }
        }
        return text.length();
    }

    int runScript() {
        String steps = text;
        text = "";
        fault = faultOf(steps);
        argument(fault == -1);
        state(activeCount() < 6 && txns.size() < 80 && commits.size() < 60);
        int number = start(1);
        for (String step : steps.split(";")) {
            try {
                take(number, step);
            } catch (RuntimeException thrown) {
                return lose(txns.get(number), 5);
            }
        }
        return commit(number);
    }

    private void take(int number, String step) {
        String[] parts = step.substring(1).split("[=+]|(?<=[0-9])-");
        int key = Integer.parseInt(parts[0]);
        switch (step.charAt(0)) {
            case 'r' -> read(number, key);
            case 'd' -> remove(number, key);
            case 'w' -> write(number, key, Integer.parseInt(parts[1]));
            case 'a' -> add(number, key, step.contains("+") ? Integer.parseInt(parts[1]) : -Integer.parseInt(parts[1]));
            default -> sum(number, key, Integer.parseInt(parts[1]));
        }
    }

    int faultPosition() {
        return fault;
    }
}
