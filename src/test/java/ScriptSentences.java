/** What the description and the promises 40 to 42 say of the text and of scripts. */
final class ScriptSentences {
    private static final int ABORTED = OptimisticStore.ABORTED;
    private static final String FAULTY = "throws.IllegalArgumentException";
    private static final String FULL = "throws.IllegalStateException";

    private final Sentences s;

    ScriptSentences(Sentences s) {
        this.s = s;
    }

    void check() {
        s.section("Description");
        text();
        stepsBetweenSemicolons();
        steps();
        keys();
        digits();
        spaces();
        faultPositions();
        s.promise(40);
        appending();
        s.promise(41);
        running();
        resultsOfARun();
        refusedRuns();
        s.promise(42);
        faultPosition();
    }

    /** -1 if the text has no fault, or its fault position. */
    private static int faultOf(String text) {
        OptimisticStore x = Stores.text(text);
        String outcome = Check.outcome(x::runScript);
        return outcome.equals(FAULTY) == (x.faultPosition() >= 0) ? x.faultPosition() : -99;
    }

    private void text() {
        s.says("There is a text of at most 60 characters, which is empty at first.");
        s.same("the first character", Stores.empty().appendCharacter('r'), 1);
        s.same("an empty text at first", faultOf(""), 0);
        String sixty = "r1;".repeat(19) + "r10";
        s.same("60 characters", Check.appendAll(Stores.empty(), sixty), 60);
        s.same("all of them are read", faultOf(sixty), -1);
        s.same("the 60th is read", faultOf("r1;".repeat(19) + "r1x"), 59);
        s.same("a 61st", Check.outcome(() -> Stores.text(sixty).appendCharacter('1')), FULL);
    }

    private void stepsBetweenSemicolons() {
        s.says("A script consists of one or more steps with a \";\" between two of them.");
        s.same("none", faultOf(""), 0);
        s.same("one", faultOf("r1"), -1);
        s.same("two", faultOf("r1;r2"), -1);
        s.same("twenty", faultOf("r1;".repeat(19) + "r1"), -1);
        s.same("none before the first", faultOf(";r1"), 0);
        s.same("none after the last", faultOf("r1;"), 3);
        s.same("not two", faultOf("r1;;r2"), 3);
        s.same("not none", faultOf("r1r2"), 2);
        s.same("not another sign", faultOf("r1,r2"), 2);
    }

    private void steps() {
        s.says("A step is \"r\" key for a read, \"w\" key \"=\" number for a write, \"d\" key for a removal, \"a\" key"
                + " \"+\" digits or \"a\" key \"-\" digits for an add with this positive or negative number, or \"s\""
                + " key \"-\" key for a sum.");
        OptimisticStore x = Stores.empty();
        Check.run(x, "w0=1;w1=1;w2=1;w3=1;w4=1");
        Check.run(x, "r0;w1=7;d2;a3+5;a4-5;s5-6");
        s.same("the read", x.recordedKeys(1), 1 | 1 << 3 | 1 << 4);
        s.same("the writes", x.writtenKeys(1), 1 << 1 | 1 << 2 | 1 << 3 | 1 << 4);
        s.same("the sum", x.predicateCount(1), 1);
        s.same("the write's value", x.value(1), 7);
        s.same("the removal", x.value(2), OptimisticStore.ABSENT);
        s.same("the positive add", x.value(3), 6);
        s.same("the negative add", x.value(4), -4);
        s.same("the sum's range", dependencyOnSum("w4=1") + dependencyOnSum("w5=-999") + dependencyOnSum("w6=-999")
                + dependencyOnSum("w7=1"), "0440");
        for (String other : new String[] {"q1", "R1", "W1=1", "+1", "b1", "c1", "e1", "t1", "x1", "v1"}) {
            s.same("no step: " + other, faultOf(other), 0);
        }
        s.same("a write needs its sign", faultOf("w1+1") + " " + faultOf("w1"), "2 2");
        s.same("an add needs its sign", faultOf("a1=1") + " " + faultOf("a1"), "2 2");
        s.same("a sum needs its sign", faultOf("s1=1") + " " + faultOf("s1"), "2 2");
        s.same("a read has none", faultOf("r1=1") + " " + faultOf("r1-1"), "2 2");
        s.same("a removal has none", faultOf("d1=1") + " " + faultOf("d1-1"), "2 2");
        s.same("an add has one sign", faultOf("a1--1") + " " + faultOf("a1+-1"), "3 3");
    }

    private static String dependencyOnSum(String script) {
        OptimisticStore x = Stores.empty();
        Check.run(x, "s5-6");
        Check.run(x, script);
        return String.valueOf(x.dependency(1, 2));
    }

    private void keys() {
        s.says("A key consists of 1 or 2 digits and is at most 31; a digit that makes it greater cannot continue a"
                + " script.");
        for (int key = 0; key <= 99; key++) {
            s.same("r" + key, faultOf("r" + key), key <= 31 ? -1 : 2);
            s.same("s0-" + key, faultOf("s0-" + key), key <= 31 ? -1 : 4);
        }
        s.same("no digit", faultOf("r") + " " + faultOf("r;r1"), "1 1");
        s.same("two digits with a 0 before", faultOf("r00") + " " + faultOf("r09"), "-1 -1");
        s.same("a third digit", faultOf("r001") + " " + faultOf("r310") + " " + faultOf("r031"), "3 3 3");
        s.same("in a write", faultOf("w31=1") + " " + faultOf("w32=1"), "-1 2");
        s.same("in a removal", faultOf("d31") + " " + faultOf("d32"), "-1 2");
        s.same("in an add", faultOf("a31+1") + " " + faultOf("a32+1"), "-1 2");
        s.same("in a sum", faultOf("s31-31") + " " + faultOf("s32-31") + " " + faultOf("s31-32"), "-1 2 5");
        OptimisticStore x = Stores.empty();
        Check.run(x, "w31=1;w03=2;w4=3");
        s.same("the keys", x.value(31) + " " + x.value(3) + " " + x.value(4), "1 2 3");
        s.same("no sign of a digit's neighbours", faultOf("r/") + " " + faultOf("r:") + " " + faultOf("r1/") + " "
                + faultOf("r1:"), "1 1 2 2");
        s.same("no negative key", faultOf("r-1"), 1);
    }

    private void digits() {
        s.says("Digits are 1 to 3 decimal digits, and a number is digits with or without a \"-\" before.");
        String[] taken = {"w1=0", "w1=9", "w1=10", "w1=999", "w1=000", "w1=-0", "w1=-9", "w1=-99", "w1=-999", "a1+0",
            "a1+999", "a1-0", "a1-999", "a1-007"};
        for (String each : taken) {
            s.same(each, faultOf(each), -1);
        }
        s.same("no digit", faultOf("w1=") + " " + faultOf("w1=-") + " " + faultOf("a1+") + " " + faultOf("a1-"),
                "3 4 3 3");
        s.same("no digit before the next step",
                faultOf("w1=;r1") + " " + faultOf("w1=-;r1") + " " + faultOf("a1+;r1"), "3 4 3");
        s.same("a fourth digit",
                faultOf("w1=1000") + " " + faultOf("w1=-9990") + " " + faultOf("a1+0001") + " " + faultOf("a1-1000"),
                "6 7 6 6");
        s.same("no plus before a number", faultOf("w1=+1"), 3);
        s.same("only one minus", faultOf("w1=--1"), 4);
        s.same("no other signs", faultOf("w1=1/") + " " + faultOf("w1=1:") + " " + faultOf("w1=a"), "4 4 3");
        OptimisticStore x = Stores.empty();
        Check.run(x, "w0=-999;w1=999;w2=012;w3=-0;a4+999;a5-999");
        s.same("the numbers", x.value(0) + " " + x.value(1) + " " + x.value(2) + " " + x.value(3) + " " + x.value(4)
                + " " + x.value(5), "-999 999 12 0 999 -999");
    }

    private void spaces() {
        s.says("There are no spaces.");
        s.refused("a space", Sentences.ARGUMENT, () -> Stores.text("r1;"), x -> x.appendCharacter(' '));
    }

    private void faultPositions() {
        s.says("The fault position of a text is the index of the first character that cannot continue a script; it is"
                + " the length of the text if the text ends too early.");
        s.same("the first character", faultOf("!"), 0);
        s.same("the first of several", faultOf("r1;x;y"), 3);
        String whole = "w10=-123;a31-45;s0-31;d7";
        for (int length = 0; length <= whole.length(); length++) {
            String start = whole.substring(0, length);
            int fault = faultOf(start);
            s.same("the start " + start + " has no fault or ends too early", fault == -1 || fault == length, true);
            s.same("a wrong character after " + start, faultOf(start + "!"), length);
        }
        s.same("the ends that are too early", endsTooEarly(whole),
                "0 1 2 3 4 5 9 10 11 12 13 16 17 18 19 22 23");
        s.same("the last of 60 characters", faultOf("r1;".repeat(19) + "r1="), 59);
        s.same("60 characters that end too early", faultOf("r1;".repeat(20)), 60);
    }

    private static String endsTooEarly(String whole) {
        StringBuilder all = new StringBuilder();
        for (int length = 0; length <= whole.length(); length++) {
            if (faultOf(whole.substring(0, length)) >= 0) {
                all.append(all.length() == 0 ? "" : " ").append(length);
            }
        }
        return all.toString();
    }

    private void appending() {
        s.says("Appends a character to the text.");
        OptimisticStore x = Stores.text("w7=");
        x.appendCharacter('4');
        x.runScript();
        s.same("it is at the end", x.value(7), 4);
        s.says("`character`: the character code, 33 to 126");
        for (int character = 33; character <= 126; character++) {
            int each = character;
            s.taken("character " + each, Stores::empty, y -> y.appendCharacter(each));
        }
        s.says("Returns the new length of the text.");
        OptimisticStore y = Stores.empty();
        for (int length = 1; length <= 60; length++) {
            s.same("length", y.appendCharacter('!'), length);
        }
        Check.outcome(y::runScript);
        s.same("after it was emptied", y.appendCharacter('!'), 1);
        s.says("Throws `IllegalArgumentException` if character is not from 33 to 126");
        for (int character : new int[] {32, 127, 0, -1, 255, 65536 + 'r', -65536 + 'r', Integer.MIN_VALUE,
            Integer.MAX_VALUE}) {
            s.refused("character " + character, Sentences.ARGUMENT, () -> Stores.text("w1=1"),
                    z -> z.appendCharacter(character));
        }
        s.says("Throws `IllegalStateException` if the text has 60 characters");
        s.taken("with 59", () -> Stores.text("r".repeat(59)), z -> z.appendCharacter('r'));
        s.refused("with 60", Sentences.STATE, () -> Stores.text("r1;".repeat(19) + "r12"), z -> z.appendCharacter(';'));
    }

    private void running() {
        s.says("Reads the text as a script and empties it; it is emptied also if an exception is thrown.");
        OptimisticStore x = Stores.text("r1");
        x.runScript();
        s.same("emptied", x.appendCharacter('r'), 1);
        s.same("a fault", Check.outcome(x::runScript), FAULTY);
        s.same("emptied", x.appendCharacter('r'), 1);
        OptimisticStore y = Stores.active(6);
        s.same("no room", Check.outcome(() -> Check.run(y, "r1")), FULL);
        s.same("emptied", y.appendCharacter('r'), 1);
        OptimisticStore z = Stores.text("s1-0");
        z.runScript();
        s.same("emptied after a failing step", z.appendCharacter('r'), 1);
        OptimisticStore full = Stores.text("r1;".repeat(20));
        Check.outcome(full::runScript);
        s.same("a full one is emptied", full.appendCharacter('r'), 1);
        s.says("Then a transaction is begun, the steps are carried out as its operations, and it is committed as by"
                + " commit.");
        OptimisticStore a = Stores.aborted(3);
        Check.run(a, "r5;w6=1;s0-3");
        s.same("begun", a.transactionCount() + " " + a.attempt(3), "4 1");
        s.same("its operations", a.operationCount(3) + " " + a.recordedKeys(3) + " " + a.writtenKeys(3) + " "
                + a.predicateCount(3), "3 32 64 1");
        s.same("committed", a.state(3) + " " + a.commitOf(3), "1 1");
        OptimisticStore twenty = Stores.empty();
        Check.run(twenty, "r0;".repeat(19) + "r1");
        s.same("all of twenty steps", twenty.operationCount(0) + " " + twenty.recordedKeys(0), "20 3");
        s.says("If an operation would throw an exception, the transaction is aborted at this point, with reason 5.");
        failing("w1=999;a1+1;w2=2", 1);
        failing("w1=-999;a1-1;w2=2", 1);
        failing("s1-0;w2=2", 0);
        failing("r3;w4=1;s31-30", 2);
        OptimisticStore brim = Stores.empty();
        s.same("up to 999 none throws", Check.run(brim, "w1=998;a1+1;w2=-998;a2-1;s3-3"), 1);
    }

    private void failing(String script, int operations) {
        OptimisticStore x = Stores.empty();
        s.same(script, Check.run(x, script), ABORTED);
        s.same(script + " is aborted at this point", x.state(0) + " " + x.operationCount(0), "2 " + operations);
        s.same(script + " has reason 5", x.reason(0), 5);
        s.same(script + " has no fault", x.faultPosition(), -1);
        s.same(script + " leaves the store", x.clock() + " " + x.value(1) + " " + x.activeCount(), "0 -1000 0");
    }

    private void resultsOfARun() {
        s.says("Returns the number of the commit, BLOCKED or ABORTED.");
        s.same("the first commit", Check.run(Stores.empty(), "r1"), 1);
        s.same("the 60th", Check.run(Stores.committed(59), "r1"), 60);
        OptimisticStore x = Stores.ticket(1, 0);
        x.read(1, 0);
        s.same("BLOCKED", Check.run(x, "w0=1"), -1);
        s.same("it stays active", x.state(2), 0);
        x.begin();
        x.read(3, 7);
        s.same("ABORTED by a rival", Check.run(x, "w7=1") + " " + x.reason(4), "-2 3");
        x.addConstraint(2, 9, 9, 0);
        s.same("ABORTED by a constraint", Check.run(x, "w9=1") + " " + x.reason(5), "-2 4");
        s.same("ABORTED by a step", Check.run(x, "s9-8") + " " + x.reason(6), "-2 5");
    }

    private void refusedRuns() {
        s.says("Throws `IllegalArgumentException` if the text has a fault");
        for (String text : new String[] {"", "x", "r", "r1;", "r32", "w1=1000", "r1;".repeat(20)}) {
            OptimisticStore x = Stores.text(text);
            s.same("the text " + text, Check.outcome(x::runScript), FAULTY);
            s.same("no transaction after " + text, x.transactionCount(), 0);
            s.same("what comes after " + text, Aftermath.of(x), Aftermath.of(Stores.empty()));
        }
        s.same("no fault, no exception", Check.run(Stores.empty(), "r1"), 1);
        s.says("Throws `IllegalStateException` if 6 transactions are active, or there are 80 transactions, or there are"
                + " 60 commits");
        s.same("5 active ones", Check.run(Stores.active(5), "r1"), 1);
        refusedRun("6 active ones", Stores.active(6));
        s.same("79 transactions", Check.run(Stores.aborted(79), "r1"), 1);
        refusedRun("80 transactions", Stores.aborted(80));
        s.same("59 commits", Check.run(Stores.committed(59), "r1"), 60);
        refusedRun("60 commits", Stores.committed(60));
        OptimisticStore x = Stores.committed(60);
        s.same("60 commits, also with a step that would throw", Check.outcome(() -> Check.run(x, "s1-0")), FULL);
    }

    private void refusedRun(String what, OptimisticStore x) {
        String before = Check.everyAnswer(x);
        s.same(what, Check.outcome(() -> Check.run(x, "w1=1")), FULL);
        s.same(what + ", nothing changes", Check.everyAnswer(x), before);
        s.same(what + ", the text is emptied", x.appendCharacter('r'), 1);
    }

    private void faultPosition() {
        s.says("Returns the fault position of the text that was read by the latest call of runScript.");
        OptimisticStore x = Stores.text("r1;x");
        Check.outcome(x::runScript);
        s.same("after a run", x.faultPosition(), 3);
        Check.appendAll(x, "w");
        s.same("appending leaves it", x.faultPosition(), 3);
        Check.outcome(x::runScript);
        s.same("after the next run", x.faultPosition(), 1);
        s.says("Returns the fault position, or -1 if the text had no fault or runScript has not been called.");
        s.same("not called", Stores.empty().faultPosition(), -1);
        s.same("not called, with a faulty text", Stores.text("xyz").faultPosition(), -1);
        s.same("an empty text", faultOf(""), 0);
        s.same("a full text", faultOf("r1;".repeat(20)), 60);
        Check.run(x, "r1");
        s.same("no fault", x.faultPosition(), -1);
        Check.outcome(x::runScript);
        Check.run(x, "s1-0");
        s.same("no fault, but a step that throws", x.faultPosition(), -1);
        Check.outcome(x::runScript);
        for (int count = x.activeCount(); count < 6; count++) {
            x.begin();
        }
        Check.outcome(() -> Check.run(x, "r1"));
        s.same("no fault, but no room", x.faultPosition(), -1);
    }
}
