/** Promises 40 to 42: the text, the script and its faults. */
public final class ScriptTest {
    private static final Check CHECK = new Check();
    private static final int ABORTED = OptimisticStore.ABORTED;

    public static void main(String[] args) {
        appending();
        steps();
        faults();
        noFaults();
        emptied();
        refusedRuns();
        failingSteps();
        commitsAsCommit();
        longScripts();
        CHECK.finish("ScriptTest");
    }

    private static void appending() {
        OptimisticStore x = new OptimisticStore();
        for (int character : new int[] {32, 127, 0, -1, 33 + 65536, Integer.MIN_VALUE, Integer.MAX_VALUE}) {
            CHECK.argument(x, "appendCharacter " + character, () -> x.appendCharacter(character));
        }
        for (int length = 1; length <= 60; length++) {
            CHECK.same("appendCharacter", x.appendCharacter(length % 2 == 0 ? 33 : 126), length);
        }
        CHECK.state(x, "a 61st", () -> x.appendCharacter('r'));
        CHECK.argument(x, "a wrong 61st", () -> x.appendCharacter(32));
        CHECK.same("faultPosition before a run", x.faultPosition(), -1);
        CHECK.same("runScript", Check.outcome(x::runScript), "throws.IllegalArgumentException");
        CHECK.same("faultPosition", x.faultPosition(), 0);
        CHECK.same("the text is empty", x.appendCharacter('r'), 1);
    }

    private static void steps() {
        OptimisticStore x = new OptimisticStore();
        CHECK.same("run", Check.run(x, "w1=5;a1+3;r1;d2;a3-7;s0-31;w04=-0;w31=-999;a31+999"), 1);
        CHECK.same("faultPosition", x.faultPosition(), -1);
        CHECK.same("value 1", x.value(1), 8);
        CHECK.same("value 2", x.value(2), OptimisticStore.ABSENT);
        CHECK.same("value 3", x.value(3), -7);
        CHECK.same("value 4", x.value(4), 0);
        CHECK.same("value 31", x.value(31), 0);
        CHECK.same("operationCount", x.operationCount(0), 9);
        CHECK.same("recordedKeys", x.recordedKeys(0), 1 << 3);
        CHECK.same("predicateCount", x.predicateCount(0), 1);
        CHECK.same("writtenKeys", x.writtenKeys(0), 1 << 31 | 1 << 1 | 1 << 2 | 1 << 3 | 1 << 4);
        CHECK.same("attempt", x.attempt(0), 1);
        CHECK.same("transactionOf", x.transactionOf(1), 0);
        Check.run(x, "w0=007;w00=12;a5+0;w9=999;a8-999");
        CHECK.same("value 0", x.value(0), 12);
        CHECK.same("value 5", x.value(5), 0);
        CHECK.same("value 9", x.value(9), 999);
        CHECK.same("value 8", x.value(8), -999);
        // A sum in a script is a predicate from its first to its last key, with the least value -999.
        int t = x.begin();
        x.write(t, 20, 1);
        int scripted = Check.run(x, "s20-21");
        x.commit(t);
        CHECK.same("the sum's predicate", x.dependency(scripted, x.clock()), 4);
        Check.run(x, "w22=1;w19=1");
        CHECK.same("its ends", x.dependency(scripted, x.clock()), 0);
        Check.run(x, "w21=-999");
        CHECK.same("its last key and least value", x.dependency(scripted, x.clock()), 4);
    }

    private static void fault(String text, int due) {
        OptimisticStore x = new OptimisticStore();
        Check.appendAll(x, text);
        CHECK.same("run of " + text, Check.outcome(x::runScript), "throws.IllegalArgumentException");
        CHECK.same("faultPosition of " + text, x.faultPosition(), due);
        CHECK.same("no transaction", x.transactionCount(), 0);
        CHECK.same("the text is empty after " + text, x.appendCharacter('!'), 1);
    }

    private static void faults() {
        String[] texts = {"", "x", ";", "1", "R1", "=", "r", "w", "d", "a", "s"};
        int[] due = {0, 0, 0, 0, 0, 0, 1, 1, 1, 1, 1};
        for (int index = 0; index < texts.length; index++) {
            fault(texts[index], due[index]);
        }
        fault("r;", 1);
        fault("r-1", 1);
        fault("rr", 1);
        fault("r32", 2);
        fault("r40", 2);
        fault("r99", 2);
        fault("r001", 3);
        fault("r311", 3);
        fault("r1=1", 2);
        fault("r1,", 2);
        fault("r1;", 3);
        fault("r1;;", 3);
        fault("r1;x", 3);
        fault("r1r2", 2);
        fault("d1-", 2);
        fault("d32", 2);
        fault("w1", 2);
        fault("w12", 3);
        fault("w1;", 2);
        fault("w1-", 2);
        fault("w32=1", 2);
        fault("w1=", 3);
        fault("w1=;", 3);
        fault("w1=+1", 3);
        fault("w1=-", 4);
        fault("w1=--", 4);
        fault("w1=-;", 4);
        fault("w1=1000", 6);
        fault("w1=-1000", 7);
        fault("w1=0000", 6);
        fault("w1=1-", 4);
        fault("w1=1=", 4);
        fault("a1", 2);
        fault("a1=", 2);
        fault("a1;", 2);
        fault("a1+", 3);
        fault("a1-", 3);
        fault("a1+-1", 3);
        fault("a1--1", 3);
        fault("a1-+1", 3);
        fault("a1+1000", 6);
        fault("a1+1+", 4);
        fault("a33+1", 2);
        fault("s1", 2);
        fault("s1;", 2);
        fault("s1+2", 2);
        fault("s1-", 3);
        fault("s1-;", 3);
        fault("s1-x", 3);
        fault("s1-32", 4);
        fault("s32-1", 2);
        fault("s1-311", 5);
        fault("s1-3-", 4);
        fault("s1--3", 3);
        fault("w1=5;a1+3;r1;d2;q", 16);
        fault("w1=5;a1+3;r1;d2;", 16);
        fault("0123456789;;;", 0);
        fault("r0/", 2);
        fault("r:", 1);
        fault("w1=/", 3);
        fault("w1=:", 3);
    }

    private static void noFaults() {
        for (String text : new String[] {"r0", "r00", "r9", "r31", "r30", "r29", "d0", "d31", "w0=0", "w31=999",
                "w31=-999", "w1=001", "a0+0", "a31-0", "a1+999", "s0-0", "s00-31", "s0-31", "r4;r5", "r3;r31"}) {
            OptimisticStore x = new OptimisticStore();
            CHECK.same("run of " + text, Check.run(x, text), 1);
            CHECK.same("faultPosition of " + text, x.faultPosition(), -1);
        }
    }

    private static void emptied() {
        OptimisticStore x = new OptimisticStore();
        Check.run(x, "w1=1");
        CHECK.same("nothing is left", Check.outcome(x::runScript), "throws.IllegalArgumentException");
        CHECK.same("an empty text", x.faultPosition(), 0);
        CHECK.same("a shorter text after a longer one", Check.run(x, "r1"), 2);
        CHECK.same("faultPosition is of the latest run", x.faultPosition(), -1);
        CHECK.same("only the new step", x.operationCount(1), 1);
        Check.appendAll(x, "r1;r2;w");
        CHECK.same("a fault", Check.outcome(x::runScript), "throws.IllegalArgumentException");
        Check.appendAll(x, "d");
        CHECK.same("appending leaves the fault position", x.faultPosition(), 7);
        CHECK.same("the text went on", x.appendCharacter('1'), 2);
        CHECK.same("run", x.runScript(), 3);
        CHECK.same("only the new step", x.operationCount(2), 1);
    }

    private static void refusedRuns() {
        OptimisticStore x = new OptimisticStore();
        for (int count = 0; count < 6; count++) {
            x.begin();
        }
        Check.appendAll(x, "r");
        CHECK.same("the fault comes first", Check.outcome(x::runScript), "throws.IllegalArgumentException");
        CHECK.same("faultPosition", x.faultPosition(), 1);
        Check.appendAll(x, "r1");
        CHECK.same("six active ones", Check.outcome(x::runScript), "throws.IllegalStateException");
        CHECK.same("the text had no fault", x.faultPosition(), -1);
        CHECK.same("transactionCount", x.transactionCount(), 6);
        CHECK.same("the text is emptied", x.appendCharacter('r'), 1);
        OptimisticStore y = new OptimisticStore();
        for (int count = 0; count < 80; count++) {
            y.abort(y.begin());
        }
        Check.appendAll(y, "r1");
        CHECK.state(y, "80 transactions", y::runScript);
        CHECK.same("the text is emptied", y.appendCharacter('r'), 1);
    }

    private static void failingSteps() {
        OptimisticStore x = new OptimisticStore();
        CHECK.same("a sum with its keys the wrong way round", Check.run(x, "w1=1;s3-1;w2=2"), ABORTED);
        CHECK.same("state", x.state(0), 2);
        CHECK.same("reason", x.reason(0), 5);
        CHECK.same("faultPosition", x.faultPosition(), -1);
        CHECK.same("it ends at this point", x.operationCount(0), 1);
        CHECK.same("writtenKeys", x.writtenKeys(0), 2);
        CHECK.same("clock", x.clock(), 0);
        CHECK.same("an add that goes too far", Check.run(x, "w1=999;a1+1;r7"), ABORTED);
        CHECK.same("reason", x.reason(1), 5);
        CHECK.same("operationCount", x.operationCount(1), 1);
        CHECK.same("recordedKeys", x.recordedKeys(1), 0);
        CHECK.same("it can be retried", x.retry(1), 2);
        CHECK.same("aborts", x.aborts(5), 2);
        CHECK.same("an add that goes too far down", Check.run(x, "a1-999;a1-1"), ABORTED);
        CHECK.same("the first add stands", x.recordedKeys(3), 2);
    }

    private static void commitsAsCommit() {
        OptimisticStore x = new OptimisticStore();
        x.configure(1, 0, 1);
        x.begin();
        x.read(0, 0);
        CHECK.same("it loses against a rival", Check.run(x, "w0=1"), ABORTED);
        CHECK.same("reason", x.reason(1), 3);
        x.retry(1);
        x.read(2, 5);
        CHECK.same("it is blocked", Check.run(x, "w5=1"), OptimisticStore.BLOCKED);
        CHECK.same("it stays active", x.state(3), 0);
        x.abort(2);
        CHECK.same("it is committed later", x.commit(3), 1);
        x.addConstraint(1, 0, 31, 1);
        CHECK.same("a constraint", Check.run(x, "w6=1"), ABORTED);
        CHECK.same("reason", x.reason(4), 4);
    }

    private static void longScripts() {
        OptimisticStore x = new OptimisticStore();
        String twenty = "r0;".repeat(19) + "r11";
        CHECK.same("60 characters", Check.appendAll(x, twenty), 60);
        CHECK.same("run", x.runScript(), 1);
        CHECK.same("20 steps", x.operationCount(0), 20);
        fault("r0;".repeat(20), 60);
        fault("r0;".repeat(19) + "r0w", 59);
    }
}
