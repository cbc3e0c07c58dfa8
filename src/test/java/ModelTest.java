import java.util.Map;
import java.util.Random;
import java.util.TreeMap;
import java.util.function.Supplier;

/** Long random runs of a fixed seed: the class and the model answer every call alike. */
public final class ModelTest {
    private static final Check CHECK = new Check();
    private static final int RUNS = 1500;
    private static final int CALLS = 512;

    private final Random random;
    private final OptimisticStore x = new OptimisticStore();
    private final Model m = new Model();
    // How the run leans: few or many keys, many or few wrong numbers, wordy or short transactions, scripts.
    private final int keys;
    private final int wild;
    private final int operationWeight;
    private final int endingWeight;
    private final int scriptWeight;
    private final int queryWeight;
    private static final Map<String, Integer> SEEN = new TreeMap<>();

    private ModelTest(int seed) {
        random = new Random(seed);
        keys = 1 + random.nextInt(random.nextBoolean() ? 4 : 32);
        wild = random.nextInt(3) == 0 ? 8 : 60;
        operationWeight = random.nextInt(4) == 0 ? 10 : 100;
        endingWeight = 10 + random.nextInt(50);
        scriptWeight = random.nextInt(3) == 0 ? 40 : random.nextInt(5);
        queryWeight = random.nextInt(4) == 0 ? 60 : random.nextInt(10);
    }

    public static void main(String[] args) {
        for (int seed = 0; seed < RUNS; seed++) {
            new ModelTest(seed).run();
        }
        // The runs are worth something only if they come to every corner.
        for (String corner : new String[] {"reason 1", "reason 2", "reason 3", "reason 4", "reason 5", "reason 6",
                "BLOCKED", "60 commits", "80 transactions", "ticket", "script committed", "script aborted",
                "script blocked", "script fault", "script refused", "24 operations", "chain over 5"}) {
            CHECK.same(corner + " was seen", SEEN.getOrDefault(corner, 0) > 0, true);
        }
        System.out.println(SEEN);
        CHECK.finish("ModelTest");
    }

    private void run() {
        if (random.nextInt(4) != 0) {
            int policy = random.nextInt(2);
            int rule = random.nextInt(3);
            int patience = 1 + random.nextInt(2);
            both("configure", () -> done(() -> x.configure(policy, rule, patience)),
                    () -> done(() -> m.configure(policy, rule, patience)));
        }
        int calls = 0;
        while (calls < CALLS) {
            calls += step();
        }
        compareAll();
        note();
    }

    private void compareAll() {
        for (int number = 0; number < x.transactionCount(); number++) {
            compareTransaction(number, number);
        }
        for (int commit = 0; commit <= x.clock(); commit++) {
            int end = commit;
            for (int key = 0; key < 32; key++) {
                int place = key;
                both("valueAt " + key, () -> x.valueAt(place, end), () -> m.valueAt(place, end));
            }
            for (int earlier = 1; earlier < commit; earlier++) {
                int start = earlier;
                both("dependency", () -> x.dependency(start, end), () -> m.dependency(start, end));
            }
        }
        compareWhole();
    }

    private void note() {
        for (int number = 0; number < x.transactionCount(); number++) {
            if (x.state(number) == 2) {
                saw("reason " + x.reason(number));
            }
            if (x.operationCount(number) == 24) {
                saw("24 operations");
            }
        }
        if (x.transactionCount() == 80) {
            saw("80 transactions");
        }
        if (x.longestChain() > 5) {
            saw("chain over 5");
        }
    }

    private static void saw(String corner) {
        SEEN.merge(corner, 1, Integer::sum);
    }

    private static Object done(Runnable call) {
        call.run();
        return "done";
    }

    private String both(String what, Supplier<Object> ours, Supplier<Object> theirs) {
        String got = Check.outcome(ours);
        CHECK.same(what, got, Check.outcome(theirs));
        return got;
    }

    /** Makes some calls and answers how many. */
    private int step() {
        int ending = operationWeight + endingWeight;
        int choice = random.nextInt(ending + scriptWeight + queryWeight);
        if (choice < operationWeight) {
            operation();
            return 1;
        }
        if (choice < ending) {
            beginningOrEnding();
            return 1;
        }
        return choice < ending + scriptWeight ? script() : query();
    }

    private int pick(int low, int high) {
        if (random.nextInt(wild) == 0) {
            int[] odd = {low - 1, high + 1, Integer.MIN_VALUE, Integer.MAX_VALUE, -1, low, high};
            return odd[random.nextInt(odd.length)];
        }
        return low + random.nextInt(Math.max(1, high - low + 1));
    }

    private int key() {
        return random.nextInt(wild) == 0 ? pick(0, 31) : random.nextInt(keys);
    }

    private int number() {
        return switch (random.nextInt(8)) {
            case 0 -> pick(-999, 999);
            case 1 -> 999;
            case 2 -> -999;
            default -> random.nextInt(7) - 3;
        };
    }

    private int anyTransaction() {
        int count = x.transactionCount();
        return random.nextInt(wild) == 0 ? pick(0, count - 1) : random.nextInt(count + 1);
    }

    private int activeTransaction() {
        for (int tries = 0; tries < 40; tries++) {
            int number = random.nextInt(x.transactionCount() + 1);
            if (number < x.transactionCount() && x.state(number) == 0) {
                return number;
            }
        }
        return anyTransaction();
    }

    private void operation() {
        if (x.activeCount() == 0 && random.nextInt(4) != 0) {
            both("begin", x::begin, m::begin);
            return;
        }
        int t = random.nextInt(wild) == 0 ? anyTransaction() : activeTransaction();
        int a = key();
        int b = random.nextInt(4) == 0 ? key() : a + random.nextInt(4);
        int n = number();
        switch (random.nextInt(7)) {
            case 0 -> both("read " + t + " " + a, () -> x.read(t, a), () -> m.read(t, a));
            case 1 -> both("scan", () -> x.scan(t, a, b, n), () -> m.scan(t, a, b, n));
            case 2 -> both("sum", () -> x.sum(t, a, b), () -> m.sum(t, a, b));
            case 3, 4 -> both("write", () -> done(() -> x.write(t, a, n)), () -> done(() -> m.write(t, a, n)));
            case 5 -> both("remove", () -> done(() -> x.remove(t, a)), () -> done(() -> m.remove(t, a)));
            default -> both("add", () -> x.add(t, a, n), () -> m.add(t, a, n));
        }
    }

    private void beginningOrEnding() {
        int active = activeTransaction();
        int any = anyTransaction();
        switch (random.nextInt(20)) {
            case 0, 1, 2, 3, 4 -> both("begin", x::begin, m::begin);
            case 5, 6, 7 -> both("retry " + any, () -> x.retry(any), () -> m.retry(any));
            case 8, 9 -> both("abort", () -> done(() -> x.abort(active)), () -> done(() -> m.abort(active)));
            case 10 -> rewind();
            case 11 -> configure();
            case 12 -> {
                int kind = pick(0, 2);
                int low = key();
                int high = random.nextInt(2) == 0 ? pick(0, 31) : 31;
                int bound = random.nextInt(9) - 4;
                both("addConstraint", () -> x.addConstraint(kind, low, high, bound),
                        () -> m.addConstraint(kind, low, high, bound));
            }
            case 13 -> both("clearConstraints", x::clearConstraints, m::clearConstraints);
            default -> {
                String got = both("commit " + active, () -> x.commit(active), () -> m.commit(active));
                if (got.equals("-1")) {
                    saw("BLOCKED");
                }
                if (got.equals("60")) {
                    saw("60 commits");
                }
            }
        }
        if (!Check.outcome(x::ticketHolder).startsWith("throws")) {
            saw("ticket");
        }
    }

    private void rewind() {
        int commit = random.nextInt(9) == 0 ? pick(0, x.clock()) : x.clock() - random.nextInt(3);
        both("rewind", () -> x.rewind(commit), () -> m.rewind(commit));
    }

    private void configure() {
        int policy = pick(0, 1);
        int rule = pick(0, 2);
        int patience = pick(1, 5);
        both("configure", () -> done(() -> x.configure(policy, rule, patience)),
                () -> done(() -> m.configure(policy, rule, patience)));
    }

    private int script() {
        StringBuilder text = new StringBuilder();
        for (int steps = 1 + random.nextInt(4); steps > 0; steps--) {
            text.append(randomStep()).append(steps > 1 ? ";" : "");
        }
        if (random.nextInt(4) == 0) {
            String signs = "rwdas0123456789=+-;;!~";
            int place = random.nextInt(text.length());
            text.setCharAt(place, signs.charAt(random.nextInt(signs.length())));
        }
        if (random.nextInt(10) == 0) {
            text.setLength(random.nextInt(text.length()));
        }
        for (int index = 0; index < text.length(); index++) {
            int character = random.nextInt(wild * 10) == 0 ? pick(33, 126) : text.charAt(index);
            both("appendCharacter", () -> x.appendCharacter(character), () -> m.appendCharacter(character));
        }
        if (random.nextInt(10) != 0) {
            String got = both("runScript of " + text, x::runScript, m::runScript);
            saw(got.equals("-1") ? "script blocked" : got.equals("-2") ? "script aborted"
                    : got.endsWith("ArgumentException") ? "script fault"
                    : got.endsWith("StateException") ? "script refused" : "script committed");
            both("faultPosition of " + text, x::faultPosition, m::faultPosition);
        }
        return text.length() + 2;
    }

    private String randomStep() {
        int key = random.nextInt(10) == 0 ? random.nextInt(100) : random.nextInt(keys);
        String digits = String.valueOf(random.nextInt(random.nextInt(6) == 0 ? 1300 : 10));
        String sign = random.nextBoolean() ? "-" : "";
        return switch (random.nextInt(5)) {
            case 0 -> "r" + key;
            case 1 -> "w" + key + "=" + sign + digits;
            case 2 -> "d" + key;
            case 3 -> "a" + key + (sign.isEmpty() ? "+" : "-") + digits;
            default -> "s" + key + "-" + Math.min(31, key + random.nextInt(9) - 1);
        };
    }

    private int query() {
        compareTransaction(anyTransaction(), activeTransaction());
        compareWhole();
        return 18 + historyQuery();
    }

    private void compareTransaction(int t, int active) {
        both("state", () -> x.state(t), () -> m.state(t));
        both("attempt", () -> x.attempt(t), () -> m.attempt(t));
        both("reason", () -> x.reason(t), () -> m.reason(t));
        both("commitOf", () -> x.commitOf(t), () -> m.commitOf(t));
        both("operationCount", () -> x.operationCount(t), () -> m.operationCount(t));
        both("recordedKeys", () -> x.recordedKeys(t), () -> m.recordedKeys(t));
        both("predicateCount", () -> x.predicateCount(t), () -> m.predicateCount(t));
        both("writtenKeys", () -> x.writtenKeys(t), () -> m.writtenKeys(t));
        both("isStale", () -> x.isStale(active), () -> m.isStale(active));
        both("rivals", () -> x.rivals(active), () -> m.rivals(active));
    }

    private void compareWhole() {
        both("clock", x::clock, m::clock);
        both("transactionCount", x::transactionCount, m::transactionCount);
        both("activeCount", x::activeCount, m::activeCount);
        both("ticketHolder", x::ticketHolder, m::ticketHolder);
        both("averageAttempts", x::averageAttempts, m::averageAttempts);
        both("abortRate", x::abortRate, m::abortRate);
        both("longestChain", x::longestChain, m::longestChain);
        both("serialFaults", x::serialFaults, m::serialFaults);
    }

    private int historyQuery() {
        int key = key();
        int commit = pick(0, x.clock());
        int earlier = pick(1, x.clock());
        int later = pick(Math.min(earlier, x.clock()), x.clock());
        int reason = pick(1, 6);
        both("value", () -> x.value(key), () -> m.value(key));
        both("valueAt", () -> x.valueAt(key, commit), () -> m.valueAt(key, commit));
        both("writerOf", () -> x.writerOf(key), () -> m.writerOf(key));
        both("transactionOf", () -> x.transactionOf(commit), () -> m.transactionOf(commit));
        both("dependency " + earlier + " " + later, () -> x.dependency(earlier, later),
                () -> m.dependency(earlier, later));
        both("aborts", () -> x.aborts(reason), () -> m.aborts(reason));
        return 6;
    }
}
