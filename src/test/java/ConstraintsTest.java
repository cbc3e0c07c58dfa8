/** Promises 35 and 36: constraints, and what they keep from being committed. */
public final class ConstraintsTest {
    private static final Check CHECK = new Check();
    private static final int ABORTED = OptimisticStore.ABORTED;

    public static void main(String[] args) {
        wrongNumbers();
        adding();
        atLeast();
        atMost();
        count();
        afterClearing();
        extremeBounds();
        CHECK.finish("ConstraintsTest");
    }

    private static void wrongNumbers() {
        OptimisticStore x = new OptimisticStore();
        for (int kind : new int[] {-1, 3, Integer.MIN_VALUE, Integer.MAX_VALUE}) {
            CHECK.argument(x, "kind", () -> x.addConstraint(kind, 0, 31, 0));
        }
        for (int key : new int[] {-1, 32, Integer.MIN_VALUE, Integer.MAX_VALUE}) {
            CHECK.argument(x, "low", () -> x.addConstraint(0, key, 31, 0));
            CHECK.argument(x, "high", () -> x.addConstraint(0, 0, key, 0));
            CHECK.argument(x, "both", () -> x.addConstraint(0, key, key, 0));
        }
        CHECK.argument(x, "high below low", () -> x.addConstraint(0, 5, 4, 0));
        CHECK.argument(x, "the range is looked at before the store", () -> x.addConstraint(0, 5, 4, 1));
        CHECK.same("none was added", x.clearConstraints(), 0);
    }

    private static void adding() {
        OptimisticStore x = new OptimisticStore();
        Check.run(x, "w0=5;w3=-2");
        CHECK.state(x, "sum 3 is not at least 4", () -> x.addConstraint(0, 0, 3, 4));
        CHECK.state(x, "sum 3 is not at most 2", () -> x.addConstraint(1, 0, 3, 2));
        CHECK.state(x, "2 keys are not at most 1", () -> x.addConstraint(2, 0, 3, 1));
        CHECK.same("sum 3 is at least 3", x.addConstraint(0, 0, 3, 3), 0);
        CHECK.same("sum 3 is at most 3", x.addConstraint(1, 0, 3, 3), 1);
        CHECK.same("2 keys are at most 2", x.addConstraint(2, 0, 3, 2), 2);
        CHECK.state(x, "a fourth", () -> x.addConstraint(2, 0, 3, 2));
        CHECK.argument(x, "the numbers of a fourth", () -> x.addConstraint(3, 0, 3, 2));
        CHECK.same("clearConstraints", x.clearConstraints(), 3);
        CHECK.same("again", x.clearConstraints(), 0);
        CHECK.same("numbered from 0 again", x.addConstraint(2, 3, 3, 1), 0);
        x.begin();
        CHECK.same("also with an active one", x.addConstraint(2, 31, 31, 0), 1);
    }

    private static void atLeast() {
        OptimisticStore x = new OptimisticStore();
        Check.run(x, "w2=5;w3=5");
        x.addConstraint(0, 2, 3, 8);
        CHECK.same("8 is enough", Check.run(x, "a2-2"), 2);
        CHECK.same("7 is not", Check.run(x, "a3-1"), ABORTED);
        CHECK.same("reason", x.reason(2), 4);
        CHECK.same("a removal", Check.run(x, "d2"), ABORTED);
        CHECK.same("outside of the range", Check.run(x, "w1=-999;w4=-999"), 3);
        CHECK.same("only the end counts", Check.run(x, "d2;w3=8"), 4);
        CHECK.same("aborts", x.aborts(4), 2);
        CHECK.same("value", x.value(3), 8);
    }

    private static void atMost() {
        OptimisticStore x = new OptimisticStore();
        CHECK.state(x, "an empty sum is 0", () -> x.addConstraint(1, 0, 31, -1));
        x.addConstraint(1, 0, 1, 0);
        CHECK.same("0 is at most 0", Check.run(x, "w0=7;w1=-7"), 1);
        CHECK.same("1 is not", Check.run(x, "a0+1"), ABORTED);
        CHECK.same("a removal", Check.run(x, "d1"), ABORTED);
        CHECK.same("less is", Check.run(x, "w0=6"), 2);
        CHECK.same("outside of the range", Check.run(x, "w2=999"), 3);
    }

    private static void count() {
        OptimisticStore x = new OptimisticStore();
        x.addConstraint(2, 30, 31, 1);
        CHECK.same("one key", Check.run(x, "w30=-999"), 1);
        CHECK.same("two keys", Check.run(x, "w31=1"), ABORTED);
        CHECK.same("outside", Check.run(x, "w29=1;w0=1"), 2);
        CHECK.same("one for the other", Check.run(x, "d30;w31=1"), 3);
    }

    private static void afterClearing() {
        OptimisticStore x = new OptimisticStore();
        x.addConstraint(2, 0, 0, 0);
        x.addConstraint(1, 1, 1, 4);
        x.addConstraint(0, 2, 2, -4);
        CHECK.same("the first", Check.run(x, "w0=0"), ABORTED);
        CHECK.same("the second", Check.run(x, "w1=5"), ABORTED);
        CHECK.same("the third", Check.run(x, "w2=-5"), ABORTED);
        CHECK.same("all", Check.run(x, "w1=4;w2=-4"), 1);
        x.clearConstraints();
        CHECK.same("none", Check.run(x, "w0=0;w1=5;w2=-5"), 2);
    }

    private static void extremeBounds() {
        OptimisticStore x = new OptimisticStore();
        CHECK.same("least", x.addConstraint(0, 0, 31, Integer.MIN_VALUE), 0);
        CHECK.same("greatest", x.addConstraint(1, 0, 31, Integer.MAX_VALUE), 1);
        CHECK.same("greatest count", x.addConstraint(2, 0, 31, Integer.MAX_VALUE), 2);
        CHECK.same("commit", Check.run(x, "w0=999;w1=-999"), 1);
        x.clearConstraints();
        CHECK.state(x, "unreachable", () -> x.addConstraint(0, 0, 31, Integer.MAX_VALUE));
        CHECK.state(x, "unreachable", () -> x.addConstraint(1, 0, 31, Integer.MIN_VALUE));
        CHECK.state(x, "a negative count", () -> x.addConstraint(2, 5, 5, -1));
    }
}
