import java.lang.reflect.Constructor;
import java.lang.reflect.Field;
import java.lang.reflect.Method;
import java.lang.reflect.Modifier;
import java.util.Set;
import java.util.TreeSet;

/** The class shows the document's face, with its exceptions, and nothing else. */
public final class FaceTest {
    private static final String[] METHODS = {
        "void configure(int,int,int) IllegalArgumentException IllegalStateException",
        "int begin() IllegalStateException",
        "int retry(int) IndexOutOfBoundsException IllegalStateException",
        "int read(int,int) IndexOutOfBoundsException IllegalArgumentException IllegalStateException",
        "int scan(int,int,int,int) IndexOutOfBoundsException IllegalArgumentException IllegalStateException",
        "int sum(int,int,int) IndexOutOfBoundsException IllegalArgumentException IllegalStateException",
        "void write(int,int,int) IndexOutOfBoundsException IllegalArgumentException IllegalStateException",
        "void remove(int,int) IndexOutOfBoundsException IllegalArgumentException IllegalStateException",
        "int add(int,int,int) IndexOutOfBoundsException IllegalArgumentException IllegalStateException"
            + " ArithmeticException",
        "int commit(int) IndexOutOfBoundsException IllegalStateException",
        "void abort(int) IndexOutOfBoundsException IllegalStateException",
        "int clock()", "int transactionCount()", "int activeCount()",
        "int ticketHolder() NoSuchElementException",
        "int state(int) IndexOutOfBoundsException", "int attempt(int) IndexOutOfBoundsException",
        "int reason(int) IndexOutOfBoundsException IllegalStateException",
        "int commitOf(int) IndexOutOfBoundsException IllegalStateException",
        "int operationCount(int) IndexOutOfBoundsException", "int recordedKeys(int) IndexOutOfBoundsException",
        "int predicateCount(int) IndexOutOfBoundsException", "int writtenKeys(int) IndexOutOfBoundsException",
        "boolean isStale(int) IndexOutOfBoundsException IllegalStateException",
        "int rivals(int) IndexOutOfBoundsException IllegalStateException",
        "int value(int) IllegalArgumentException",
        "int valueAt(int,int) IllegalArgumentException IndexOutOfBoundsException",
        "int writerOf(int) IllegalArgumentException", "int transactionOf(int) IndexOutOfBoundsException",
        "int dependency(int,int) IndexOutOfBoundsException IllegalArgumentException",
        "int longestChain()", "int serialFaults()",
        "int rewind(int) IndexOutOfBoundsException IllegalStateException",
        "int addConstraint(int,int,int,int) IllegalArgumentException IllegalStateException",
        "int clearConstraints()", "int aborts(int) IllegalArgumentException",
        "double averageAttempts() ArithmeticException", "float abortRate() ArithmeticException",
        "int appendCharacter(int) IllegalArgumentException IllegalStateException",
        "int runScript() IllegalArgumentException IllegalStateException", "int faultPosition()",
    };

    public static void main(String[] args) {
        Check check = new Check();
        check.same("ABSENT", OptimisticStore.ABSENT, -1000);
        check.same("BLOCKED", OptimisticStore.BLOCKED, -1);
        check.same("ABORTED", OptimisticStore.ABORTED, -2);
        check.same("final", Modifier.isFinal(OptimisticStore.class.getModifiers()), true);

        Set<String> methods = new TreeSet<>();
        Set<String> hidden = new TreeSet<>();
        for (Method each : OptimisticStore.class.getDeclaredMethods()) {
            if (Modifier.isPrivate(each.getModifiers())) {
                hidden.add(each.getName());
            } else {
                methods.add(describe(each));
                check.same(each.getName() + " is public and not static", each.getModifiers(), Modifier.PUBLIC);
            }
        }
        check.same("the methods", methods, new TreeSet<>(Set.of(METHODS)));
        for (Method each : OptimisticStore.class.getMethods()) {
            check.same("a private method is named " + each.getName(), hidden.contains(each.getName()), false);
        }

        Set<String> fields = new TreeSet<>();
        for (Field each : OptimisticStore.class.getDeclaredFields()) {
            if (!Modifier.isPrivate(each.getModifiers())) {
                fields.add(each.toString());
            }
        }
        check.same("the visible fields", fields, new TreeSet<>(Set.of(
                "public static final int OptimisticStore.ABSENT",
                "public static final int OptimisticStore.BLOCKED",
                "public static final int OptimisticStore.ABORTED")));
        Constructor<?>[] constructors = OptimisticStore.class.getDeclaredConstructors();
        check.same("the constructors", constructors.length, 1);
        check.same("the constructor", constructors[0].toString(), "public OptimisticStore()");
        check.finish("FaceTest");
    }

    private static String describe(Method method) {
        StringBuilder text = new StringBuilder(method.getReturnType() + " " + method.getName() + "(");
        for (Class<?> each : method.getParameterTypes()) {
            text.append(text.charAt(text.length() - 1) == '(' ? "" : ",").append(each);
        }
        text.append(')');
        for (Class<?> each : method.getExceptionTypes()) {
            text.append(' ').append(each.getSimpleName());
        }
        return text.toString();
    }
}
