/**
 * What a store does from here on, as one text: it shows what no question answers at once (the text, the constraints,
 * the configuration, which transactions were retried). The store is used up by it.
 */
final class Aftermath {
    private final OptimisticStore x;
    private final StringBuilder all = new StringBuilder();

    private Aftermath(OptimisticStore x) {
        this.x = x;
    }

    static String of(OptimisticStore x) {
        Aftermath aftermath = new Aftermath(x);
        aftermath.goOn();
        return aftermath.all.toString();
    }

    private void goOn() {
        tell("script " + Check.outcome(x::runScript));
        tell("text " + Check.outcome(() -> x.appendCharacter('r')));
        int before = x.transactionCount();
        for (int number = 0; number < before; number++) {
            int each = number;
            tell("commit " + Check.outcome(() -> x.commit(each)));
        }
        abortAll();
        for (int number = 0; number < before; number++) {
            int each = number;
            tell("retry " + Check.outcome(() -> x.retry(each)));
            abortAll();
        }
        tell("constraints " + x.clearConstraints());
        tell("two against one " + conflict(2));
        tell("one against one " + conflict(1));
        tell("patience " + patience());
        tell("rewind " + Check.outcome(() -> x.rewind(0)));
    }

    private void tell(String what) {
        all.append(what).append('\n').append(x.clock()).append(' ').append(x.transactionCount()).append(' ')
                .append(x.activeCount()).append(' ').append(x.faultPosition()).append('\n');
    }

    private void abortAll() {
        for (int number = 0; number < x.transactionCount(); number++) {
            if (x.state(number) == 0) {
                x.abort(number);
            }
        }
    }

    /** A writer with one operation commits against a reader with this many: the policy and the victim rule. */
    private String conflict(int reads) {
        return Check.outcome(() -> {
            int reader = x.begin();
            int writer = x.begin();
            for (int count = 0; count < reads; count++) {
                x.read(reader, 9);
            }
            x.write(writer, 9, 1);
            String answer = x.commit(writer) + " " + x.state(reader);
            abortAll();
            return answer;
        });
    }

    private String patience() {
        return Check.outcome(() -> {
            int number = x.begin();
            while (Check.outcome(x::ticketHolder).startsWith("throws") && x.attempt(number) < 9) {
                x.abort(number);
                number = x.retry(number);
            }
            abortAll();
            return x.attempt(number);
        });
    }
}
