import java.io.IOException;

/** What the terms say of refused calls, and that the last call of an object is as good as its first. */
public final class TermsOfRefusalsTest {
    private static final int LOW = Integer.MIN_VALUE;
    private static final int HIGH = Integer.MAX_VALUE;
    private static final long NONE = -1000000000000000000L;

    private record State(String name, Refusals.Way way) {
    }

    private record Wrong(String name, Refusals.Call call) {
    }

    private static final State[] STATES = {
        new State("a new object", Ways::nothing),
        new State("a busy one", Ways::busy),
        new State("full of expressions", Ways::fullOfExpressions),
        new State("full of own functions", Ways::fullOfOwnFunctions),
        new State("full of functions", Ways::fullOfFunctions),
        new State("full of all", Ways::fullOfAll),
    };

    private static final Wrong[] REFUSED_EVERYWHERE = {
        new Wrong("expression(-1, 0, 0, 0)", c -> c.expression(-1, 0, 0, 0)),
        new Wrong("expression(12, 0, 0, 0)", c -> c.expression(12, 0, 0, 0)),
        new Wrong("expression(1, 6, 0, 0)", c -> c.expression(1, 6, 0, 0)),
        new Wrong("expression(2, 80, 0, 0)", c -> c.expression(2, 80, 0, 0)),
        new Wrong("expression(4, 0, -1, 0)", c -> c.expression(4, 0, -1, 0)),
        new Wrong("expression(6, 0, 4, 0)", c -> c.expression(6, 0, 4, 0)),
        new Wrong("expression(10, 0, 2, 0)", c -> c.expression(10, 0, 2, 0)),
        new Wrong("expression(11, 0, 0, 8)", c -> c.expression(11, 0, 0, 8)),
        new Wrong("expression(low, low, low, low)", c -> c.expression(LOW, LOW, LOW, LOW)),
        new Wrong("expression(high, high, high, high)", c -> c.expression(HIGH, HIGH, HIGH, HIGH)),
        new Wrong("statement(-1, 4, 0, 1)", c -> c.statement(-1, 4, 0, 1)),
        new Wrong("statement(8, 4, 0, 1)", c -> c.statement(8, 4, 0, 1)),
        new Wrong("statement(0, 6, 0, 0)", c -> c.statement(0, 6, 0, 0)),
        new Wrong("statement(0, -1, 0, 0)", c -> c.statement(0, -1, 0, 0)),
        new Wrong("statement(0, 0, 6, 0)", c -> c.statement(0, 0, 6, 0)),
        new Wrong("statement(0, 1, 2, 0)", c -> c.statement(0, 1, 2, 0)),
        new Wrong("statement(0, 2, 0, 80)", c -> c.statement(0, 2, 0, 80)),
        new Wrong("statement(0, 3, 0, 0)", c -> c.statement(0, 3, 0, 0)),
        new Wrong("statement(0, 4, 0, 6)", c -> c.statement(0, 4, 0, 6)),
        new Wrong("statement(0, 5, 0, 0)", c -> c.statement(0, 5, 0, 0)),
        new Wrong("statement(low, low, low, low)", c -> c.statement(LOW, LOW, LOW, LOW)),
        new Wrong("statement(high, high, high, high)", c -> c.statement(HIGH, HIGH, HIGH, HIGH)),
        new Wrong("derive(8, 0)", c -> c.derive(8, 0)),
        new Wrong("derive(0, 2)", c -> c.derive(0, 2)),
        new Wrong("derive(low, low)", c -> c.derive(LOW, LOW)),
        new Wrong("derive(high, high)", c -> c.derive(HIGH, HIGH)),
        new Wrong("cost(8)", c -> c.cost(8)),
        new Wrong("cost(-1)", c -> c.cost(-1)),
        new Wrong("order(8)", c -> c.order(8)),
        new Wrong("order(-1)", c -> c.order(-1)),
        new Wrong("calls(8, 0)", c -> c.calls(8, 0)),
        new Wrong("calls(0, -1)", c -> c.calls(0, -1)),
        new Wrong("count(4)", c -> c.count(4)),
        new Wrong("count(-1)", c -> c.count(-1)),
    };

    private static final Wrong[] NONE_EVERYWHERE = {
        new Wrong("run(-1, 1, 2)", c -> c.run(-1, 1, 2)),
        new Wrong("run(8, 1, 2)", c -> c.run(8, 1, 2)),
        new Wrong("run(low, low, low)", c -> c.run(LOW, Long.MIN_VALUE, Long.MIN_VALUE)),
        new Wrong("gradient(-1, 0, 1, 2)", c -> c.gradient(-1, 0, 1, 2)),
        new Wrong("gradient(8, 0, 1, 2)", c -> c.gradient(8, 0, 1, 2)),
        new Wrong("gradient(0, 2, 1, 2)", c -> c.gradient(0, 2, 1, 2)),
        new Wrong("gradient(0, -1, 1, 2)", c -> c.gradient(0, -1, 1, 2)),
        new Wrong("gradient(high, high, high, high)", c -> c.gradient(HIGH, HIGH, Long.MAX_VALUE, Long.MAX_VALUE)),
    };

    public static void main(String[] args) throws IOException {
        Sentences face = new Sentences("The public face");
        face.test("public static final int REFUSED = -1;",
                check -> check.due("REFUSED", DerivativeCompiler.REFUSED, -1));
        face.test("public static final long NONE = -1000000000000000000L;",
                check -> check.due("NONE", DerivativeCompiler.NONE, NONE));
        face.finish();
        Sentences terms = new Sentences("Terms");
        terms.test("Refused calls answer REFUSED", TermsOfRefusalsTest::refusedInEveryState);
        terms.test("or NONE for longs", TermsOfRefusalsTest::noneInEveryState);
        terms.test("and change nothing.", TermsOfRefusalsTest::manyRefusals);
        terms.test("(NONE may be a value, too.)", TermsOfRefusalsTest::noneAsValue);
        terms.finish();
        Sentences whole = new Sentences("What it is");
        whole.test("An object is used for at most 512 calls after it has been made",
                TermsOfRefusalsTest::theLastQuestion);
        whole.test("An object is used for at most 512 calls after it has been made",
                TermsOfRefusalsTest::theLastAddition);
        whole.finish();
    }

    private static void refusedInEveryState(Check check) {
        for (State state : STATES) {
            for (Wrong wrong : REFUSED_EVERYWHERE) {
                Refusals.refused(check, wrong.name + ", " + state.name, state.way, wrong.call);
            }
        }
    }

    private static void noneInEveryState(Check check) {
        for (State state : STATES) {
            for (Wrong wrong : NONE_EVERYWHERE) {
                Refusals.none(check, wrong.name + ", " + state.name, state.way, wrong.call);
            }
        }
    }

    /** One refused call after another, of all kinds, between calls that are done. */
    private static void manyRefusals(Check check) {
        DerivativeCompiler c = new DerivativeCompiler();
        refuseAll(check, c);
        check.due("function()", c.function(), 0);
        check.due("the variable 0", c.expression(1, 0, 0, 0), 0);
        refuseAll(check, c);
        check.due("a product", c.expression(4, 0, 0, 0), 1);
        check.due("variable 0 becomes it", c.statement(0, 0, 0, 1), 1);
        refuseAll(check, c);
        check.due("its result", c.run(0, 7, 0), 49);
        check.due("its derived one", c.derive(0, 0), 1);
        refuseAll(check, c);
        check.due("its derivative", c.run(1, 7, 0), 14);
        check.due("an own one", c.function(), 2);
        check.due("its cost", c.cost(0), 5);
        for (int what = 0; what < 4; what++) {
            check.due("count(" + what + ")", c.count(what), new int[] {2, 3, 1, 0}[what]);
        }
    }

    private static void refuseAll(Check check, DerivativeCompiler c) {
        for (Wrong wrong : REFUSED_EVERYWHERE) {
            check.due(wrong.name, wrong.call.on(c), -1);
        }
        for (Wrong wrong : NONE_EVERYWHERE) {
            check.due(wrong.name, wrong.call.on(c), NONE);
        }
    }

    private static void noneAsValue(Check check) {
        Builder b = new Builder();
        Derivatives plain = new Derivatives(check, b, b.function());
        plain.due("NONE as x", NONE, 0, NONE, 1);
        b = new Builder();
        Derivatives sum = Derivatives.of(check, b, b.sum(b.variable(0), b.constant(1)));
        sum.due("NONE as a sum", NONE - 1, 0, NONE, 1);
        b = new Builder();
        Derivatives product = Derivatives.of(check, b, b.product(b.variable(0), b.variable(1)));
        product.due("NONE as a derivative by x", 1, NONE, NONE, NONE, 1, 0, 1, 1);
        product.due("NONE as a derivative by y", NONE, 0, 0, 0, NONE, 0, 1, 1);
        b = new Builder();
        Derivatives square = Derivatives.of(check, b, b.product(b.power(b.variable(0), 2), b.variable(1)));
        square.due("NONE as a derivative by x and x", 0, NONE / 2, 0, 0, 0, NONE);
        b = new Builder();
        int f = b.function();
        int g = b.function();
        b.set(f, 0, b.call(g, b.variable(1), b.variable(0)));
        new Derivatives(check, b, f).due("NONE as the result of a call", 5, NONE, NONE, 0, 1);
    }

    /** The 512th call is a question, and those before it are questions, too, or refused. */
    private static void theLastQuestion(Check check) {
        DerivativeCompiler c = new DerivativeCompiler();
        check.due("function()", c.function(), 0);
        check.due("derive(0, 0)", c.derive(0, 0), 1);
        check.due("derive(1, 1)", c.derive(1, 1), 2);
        check.due("the variable 0", c.expression(1, 0, 0, 0), 0);
        check.due("the variable 1", c.expression(1, 1, 0, 0), 1);
        check.due("their product", c.expression(4, 0, 1, 0), 2);
        check.due("its square", c.expression(6, 2, 2, 0), 3);
        check.due("variable 0 becomes it", c.statement(0, 0, 0, 3), 1);
        for (int call = 9; call <= 512; call++) {
            long x = call;
            long y = -call;
            switch (call % 6) {
                case 0 -> check.due("run as call " + call, c.run(0, x, y), x * x * y * y);
                case 1 -> check.due("run as call " + call, c.run(1, x, y), 2 * x * y * y);
                case 2 -> check.due("run as call " + call, c.run(2, x, y), 4 * x * y);
                case 3 -> check.due("gradient as call " + call, c.gradient(0, 1, x, y), 2 * x * x * y);
                case 4 -> check.due("a refused call as call " + call, c.derive(2, 0), -1);
                default -> check.due("cost as call " + call, c.cost(0), 9);
            }
        }
    }

    /** All that an object has room for is there after calls that leave just so many to come. */
    private static void theLastAddition(Check check) {
        DerivativeCompiler c = new DerivativeCompiler();
        for (int call = 1; call <= 512 - 184; call++) {
            check.due("count(2) as call " + call, c.count(2), 0);
        }
        for (int i = 0; i < 8; i++) {
            check.due("function()", c.function(), i);
        }
        for (int i = 0; i < 80; i++) {
            check.due("an expression", c.expression(1, i % 6, 0, 0), i);
        }
        for (int i = 0; i < 96; i++) {
            check.due("a statement", c.statement(i % 8, 0, 0, i % 80), i / 8 + 1);
        }
    }
}
