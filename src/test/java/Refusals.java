import java.util.List;

/**
 * Refused calls: what they answer, and that they change nothing. Two objects come the same way, the call is
 * tried on one of them, and no later call may tell them apart.
 */
final class Refusals {
    interface Way {
        void go(Builder b);
    }

    interface Call {
        long on(DerivativeCompiler compiler);
    }

    private Refusals() {
    }

    static void refused(Check check, String call, Way way, Call refused) {
        tried(check, call, way, refused, -1);
    }

    static void none(Check check, String call, Way way, Call refused) {
        tried(check, call, way, refused, -1000000000000000000L);
    }

    private static void tried(Check check, String call, Way way, Call refused, long due) {
        int wrong = check.wrong();
        Builder tried = new Builder();
        way.go(tried);
        check.due(call, refused.on(tried.compiler), due);
        check.due(call + " again", refused.on(tried.compiler), due);
        if (check.wrong() > wrong) {
            // what was not refused shows in all that follows
            return;
        }
        Builder kept = new Builder();
        way.go(kept);
        List<Showing.Answer> answers = Showing.of(tried.compiler);
        List<Showing.Answer> dues = Showing.of(kept.compiler);
        for (int i = 0; i < dues.size(); i++) {
            check.due(call + " twice, then " + dues.get(i).call(), answers.get(i).value(), dues.get(i).value());
        }
    }
}
