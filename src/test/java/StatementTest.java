import java.io.IOException;

/** Promise 4: statement. */
public final class StatementTest {
    private static final int LOW = Ways.LOW;
    private static final int HIGH = Ways.HIGH;

    public static void main(String[] args) throws IOException {
        Sentences promise = new Sentences("Promise 4: statement");
        promise.test("Adds a statement to an own function; answers how many it has then.", StatementTest::howMany);
        promise.test("No such function", StatementTest::noFunction);
        promise.test("or a derived one", StatementTest::derivedOnes);
        promise.test("kind not 0 .. 5", StatementTest::wrongKinds);
        promise.test("a no variable (0)", StatementTest::noVariable);
        promise.test("or array (1)", StatementTest::noArray);
        promise.test("b no expression made (0, 1, 2)", StatementTest::noExpression);
        promise.test("or not 1 .. 5 (4)", StatementTest::wrongTimes);
        promise.test("an ELSE that is not directly within an IF without an ELSE", StatementTest::elses);
        promise.test("an ELSE that is not directly within an IF without an ELSE", StatementTest::elsesRefused);
        promise.test("an END with nothing to end", StatementTest::ends);
        promise.test("an END with nothing to end", StatementTest::endsRefused);
        promise.test("12 are there", StatementTest::twelve);
        promise.test("a function would call itself", StatementTest::circles);
        promise.test("or some own function would cost more than 40: REFUSED.", StatementTest::tooDear);
        promise.test("or some own function would cost more than 40: REFUSED.", StatementTest::callersTooDear);
        promise.finish();
    }

    private static void howMany(Check check) {
        Builder b = new Builder();
        int x = b.variable(0);
        int f = b.function();
        int g = b.function();
        check.due("the first of f", b.set(f, 5, x), 1);
        check.due("the first of g", b.setElement(g, 1, x), 1);
        check.due("the second of f", b.doIf(f, x), 2);
        check.due("an else", b.doElse(f), 3);
        check.due("a refused one", b.doElse(f), -1);
        check.due("an end", b.end(f), 4);
        check.due("a repeat", b.repeat(f, 5), 5);
        check.due("the second of g", b.repeat(g, 1), 2);
        check.due("count(2)", b.compiler.count(2), 7);
        DerivativeCompiler c = new DerivativeCompiler();
        c.function();
        c.expression(0, 1, 0, 0);
        check.due("an if has no use for a", c.statement(0, 2, HIGH, 0), 1);
        check.due("an else has no use for a and b", c.statement(0, 3, LOW, HIGH), 2);
        check.due("an end has no use for a and b", c.statement(0, 5, HIGH, LOW), 3);
        check.due("a repeat has no use for a", c.statement(0, 4, LOW, 2), 4);
    }

    private static void noFunction(Check check) {
        for (int kind = 0; kind <= 5; kind++) {
            int k = kind;
            for (int function : Ways.NO_FUNCTIONS) {
                Refusals.refused(check, "function " + function + ", kind " + k, Ways::busy,
                        c -> c.statement(function, k, 0, 1));
            }
            Refusals.refused(check, "no function yet, kind " + k, b -> b.costing(2), c -> c.statement(0, k, 0, 1));
        }
        Builder b = new Builder();
        Ways.fullOfOwnFunctions(b);
        check.due("the last function", b.set(7, 0, 0), 1);
        check.due("the first function", b.set(0, 0, 0), 2);
    }

    private static void derivedOnes(Check check) {
        for (int kind = 0; kind <= 5; kind++) {
            int k = kind;
            for (int function : Ways.DERIVED) {
                Refusals.refused(check, "derived " + function + ", kind " + k, Ways::busy,
                        c -> c.statement(function, k, 0, 1));
            }
        }
        Refusals.refused(check, "an end for what the own one has open", b -> {
            b.repeat(b.function(), 2);
            b.derive(0, 0);
        }, c -> c.statement(1, 5, 0, 0));
        Refusals.refused(check, "a derived one made before an own one", b -> {
            b.function();
            b.derive(0, 0);
            b.function();
            b.variable(0);
        }, c -> c.statement(1, 0, 0, 0));
    }

    private static void wrongKinds(Check check) {
        for (int kind : new int[] {-1, LOW, 6, 7, 11, 256, 1 << 16, HIGH}) {
            for (int function : Ways.OWN) {
                Refusals.refused(check, "kind " + kind, Ways::busy, c -> c.statement(function, kind, 0, 1));
            }
        }
    }

    private static void noVariable(Check check) {
        for (int variable : new int[] {-1, LOW, 6, 7, 256, 1 << 16, HIGH}) {
            Refusals.refused(check, "variable " + variable, Ways::busy, c -> c.statement(1, 0, variable, 0));
        }
        for (int variable = 0; variable <= 5; variable++) {
            Builder b = new Builder();
            b.variable(1);
            check.due("variable " + variable, b.set(b.function(), variable, 0), 1);
            check.due("its result", b.run(0, 3, 5), variable == 0 ? 5 : 3);
        }
    }

    private static void noArray(Check check) {
        for (int array : new int[] {-1, LOW, 2, 3, 5, 256, 1 << 16, HIGH}) {
            Refusals.refused(check, "array " + array, Ways::busy, c -> c.statement(1, 1, array, 0));
        }
        for (int array = 0; array <= 1; array++) {
            Builder b = new Builder();
            int y = b.variable(1);
            int f = b.function();
            check.due("array " + array, b.setElement(f, array, y), 1);
            b.set(f, 0, b.element(array, b.constant(0)));
            check.due("its element", b.run(f, 3, 5), 5);
        }
    }

    private static void noExpression(Check check) {
        for (int kind = 0; kind <= 2; kind++) {
            int k = kind;
            for (int expression : Ways.NO_EXPRESSIONS) {
                Refusals.refused(check, "kind " + k + ", expression " + expression, Ways::busy,
                        c -> c.statement(1, k, 0, expression));
            }
            Refusals.refused(check, "kind " + k + ", none made yet", Builder::function, c -> c.statement(0, k, 0, 0));
            Builder b = new Builder();
            b.function();
            b.costing(5);
            check.due("kind " + k + ", the first expression", b.compiler.statement(0, k, 0, 0), 1);
            check.due("kind " + k + ", the last expression", b.compiler.statement(0, k, 0, 4), 2);
        }
        DerivativeCompiler c = new DerivativeCompiler();
        c.function();
        for (int i = 0; i < 80; i++) {
            c.expression(0, i, 0, 0);
        }
        check.due("the expression 79", c.statement(0, 0, 0, 79), 1);
        check.due("the expression 80", c.statement(0, 0, 0, 80), -1);
        check.due("the result", c.run(0, 0, 0), 79);
    }

    private static void wrongTimes(Check check) {
        for (int times : new int[] {0, -1, LOW, 6, 7, 256, 257, 1 << 16, (1 << 16) + 1, HIGH}) {
            for (int function : Ways.OWN) {
                Refusals.refused(check, "repeat " + times, Ways::busy, c -> c.statement(function, 4, 0, times));
            }
        }
        for (int times = 1; times <= 5; times++) {
            Builder b = new Builder();
            check.due("repeat " + times, b.repeat(b.function(), times), 1);
        }
    }

    private static void elses(Check check) {
        Builder b = new Builder();
        int one = b.constant(1);
        int f = b.function();
        check.due("else of nothing", b.doElse(f), -1);
        b.repeat(f, 1);
        check.due("else of a repeat", b.doElse(f), -1);
        b.doIf(f, one);
        b.repeat(f, 1);
        check.due("else of a repeat within an if", b.doElse(f), -1);
        b.end(f);
        check.due("else", b.doElse(f), 5);
        check.due("a second else", b.doElse(f), -1);
        b.doIf(f, one);
        check.due("else of an if within an else", b.doElse(f), 7);
        b.end(f);
        check.due("a second else behind an inner if", b.doElse(f), -1);
        b.end(f);
        check.due("else behind the end", b.doElse(f), -1);
        check.due("count(3)", b.compiler.count(3), 1);
        check.due("the last end", b.end(f), 10);
        check.due("else behind all ends", b.doElse(f), -1);
    }

    private static void elsesRefused(Check check) {
        Refusals.refused(check, "else of nothing", Ways::busy, c -> c.statement(0, 3, 0, 0));
        Refusals.refused(check, "a second else", Ways::busy, c -> c.statement(1, 3, 0, 0));
        Refusals.refused(check, "else of a repeat", b -> {
            b.variable(0);
            b.doIf(b.function(), 0);
            b.repeat(0, 2);
        }, c -> c.statement(0, 3, 0, 0));
        Refusals.refused(check, "else behind an end", b -> {
            b.variable(0);
            b.doIf(b.function(), 0);
            b.end(0);
        }, c -> c.statement(0, 3, 0, 0));
        Refusals.refused(check, "else of another function's if", b -> {
            b.variable(0);
            b.doIf(b.function(), 0);
            b.function();
        }, c -> c.statement(1, 3, 0, 0));
        Refusals.refused(check, "a second else behind a whole if", b -> {
            b.variable(0);
            b.doIf(b.function(), 0);
            b.doElse(0);
            b.doIf(0, 0);
            b.doElse(0);
            b.end(0);
        }, c -> c.statement(0, 3, 0, 0));
    }

    private static void ends(Check check) {
        Builder b = new Builder();
        int one = b.constant(1);
        int f = b.function();
        int g = b.function();
        check.due("end of nothing", b.end(f), -1);
        b.doIf(g, one);
        check.due("end of what another function has", b.end(f), -1);
        b.doIf(f, one);
        b.doElse(f);
        check.due("end of an else", b.end(f), 3);
        check.due("a second end", b.end(f), -1);
        b.repeat(f, 2);
        check.due("end of a repeat", b.end(f), 5);
        check.due("one end too many", b.end(f), -1);
        b.doIf(f, one);
        check.due("end of an if", b.end(f), 7);
        check.due("one end too many", b.end(f), -1);
        b.repeat(f, 1);
        b.doIf(f, one);
        check.due("an inner end", b.end(f), 10);
        check.due("an outer end", b.end(f), 11);
        check.due("one end too many", b.end(f), -1);
        check.due("count(3)", b.compiler.count(3), 1);
    }

    private static void endsRefused(Check check) {
        Refusals.refused(check, "end of nothing", Ways::busy, c -> c.statement(0, 5, 0, 0));
        Refusals.refused(check, "end in an empty function", Builder::function, c -> c.statement(0, 5, 0, 0));
        Refusals.refused(check, "a second end", b -> {
            b.repeat(b.function(), 2);
            b.end(0);
        }, c -> c.statement(0, 5, 0, 0));
        Refusals.refused(check, "a second end behind an else", b -> {
            b.variable(0);
            b.doIf(b.function(), 0);
            b.doElse(0);
            b.end(0);
        }, c -> c.statement(0, 5, 0, 0));
    }

    private static void twelve(Check check) {
        for (int kind = 0; kind <= 5; kind++) {
            int k = kind;
            Refusals.refused(check, "a 13th of kind " + k, Ways::fullOfAll, c -> c.statement(7, k, 0, 1));
            Refusals.refused(check, "a 13th of kind " + k + " behind an if", b -> {
                b.costing(2);
                b.function();
                b.function();
                for (int i = 0; i < 11; i++) {
                    b.set(0, i % 6, 0);
                }
                b.doIf(0, 0);
            }, c -> c.statement(0, k, 0, 1));
        }
        Builder b = new Builder();
        int y = b.variable(1);
        int f = b.function();
        for (int i = 1; i <= 12; i++) {
            check.due("statement " + i, b.repeat(f, 1), i);
        }
        check.due("a 13th", b.set(f, 0, y), -1);
        check.due("a 13th, an end", b.end(f), -1);
        check.due("count(2)", b.compiler.count(2), 12);
        check.due("count(3)", b.compiler.count(3), 12);
        check.due("the run", b.run(f, 3, 4), 3);
        int g = b.function();
        check.due("another function has room", b.set(g, 0, y), 1);
    }

    private static void circles(Check check) {
        for (int kind = 0; kind <= 2; kind++) {
            int k = kind;
            // of busy, expression 4 calls function 1, 5 calls 0, and 6 calls 4
            Refusals.refused(check, "itself, kind " + k, Ways::busy, c -> c.statement(0, k, 0, 5));
            Refusals.refused(check, "itself, kind " + k, Ways::busy, c -> c.statement(1, k, 0, 4));
            Refusals.refused(check, "itself, kind " + k, Ways::busy, c -> c.statement(4, k, 0, 6));
            Refusals.refused(check, "its caller, kind " + k, Ways::busy, c -> c.statement(1, k, 0, 5));
            Refusals.refused(check, "itself at first, kind " + k, b -> {
                b.function();
                b.call(0, b.variable(0), 0);
            }, c -> c.statement(0, k, 0, 1));
            Refusals.refused(check, "a caller's caller, kind " + k, b -> {
                int x = b.variable(0);
                b.function();
                b.function();
                b.function();
                b.set(0, 0, b.call(1, x, x));
                b.set(1, 0, b.call(2, x, x));
                b.power(b.call(0, x, x), 0);
            }, c -> c.statement(2, k, 0, 4));
        }
        Builder b = new Builder();
        Ways.busy(b);
        check.due("a function may still call another", b.set(0, 2, b.call(1, 0, 0)), 2);
        b = new Builder();
        Ways.busy(b);
        check.due("and that one a new one", b.set(1, 2, b.call(b.function(), 0, 0)), 5);
    }

    private static void tooDear(Check check) {
        for (int kind = 0; kind <= 2; kind++) {
            int k = kind;
            Refusals.refused(check, "41 at once, kind " + k, b -> {
                b.function();
                b.costing(39);
            }, c -> c.statement(0, k, 0, 38));
            Refusals.refused(check, "42 with 40 there, kind " + k, b -> {
                b.set(b.function(), 0, b.costing(38));
            }, c -> c.statement(0, k, 0, 0));
            Refusals.refused(check, "41 with 39 there, kind " + k, b -> {
                b.set(b.function(), 0, b.costing(37));
            }, c -> c.statement(0, k, 0, 0));
            Builder b = new Builder();
            b.function();
            b.costing(38);
            check.due("40 at once, kind " + k, b.compiler.statement(0, k, 0, 37), 1);
            check.due("its cost", b.cost(0), 40);
            b = new Builder();
            b.set(b.function(), 0, b.costing(36));
            check.due("40 with 38 there, kind " + k, b.compiler.statement(0, k, 0, 0), 2);
            check.due("its cost", b.cost(0), 40);
        }
        Refusals.refused(check, "a repeat with 40 there", b -> b.set(b.function(), 0, b.costing(38)),
                c -> c.statement(0, 4, 0, 1));
        Builder b = new Builder();
        b.set(b.function(), 0, b.costing(37));
        check.due("a repeat with 39 there", b.repeat(0, 5), 2);
        check.due("its cost", b.cost(0), 40);
        Refusals.refused(check, "within two repeats", way -> {
            way.variable(0);
            way.repeat(way.function(), 5);
            way.repeat(0, 4);
        }, c -> c.statement(0, 0, 0, 0));
    }

    private static void callersTooDear(Check check) {
        Refusals.Way way = b -> {
            int callee = b.function();
            int caller = b.function();
            int cheap = b.function();
            int x = b.variable(0);
            int call = b.call(callee, x, x);
            b.set(cheap, 0, call);
            b.set(caller, 0, b.power(call, 3));
            b.set(caller, 1, b.costing(22));
        };
        // the caller counts the callee's cost three times, so it has 1 + 14 + 23
        Builder b = new Builder();
        way.go(b);
        check.due("the caller's cost", b.cost(1), 38);
        Refusals.refused(check, "a callee's repeat", way, c -> c.statement(0, 4, 0, 1));
        Refusals.refused(check, "a callee's variable", way, c -> c.statement(0, 0, 0, 0));
        Refusals.refused(check, "a callee's if", way, c -> c.statement(0, 2, 0, 0));
        check.due("a statement of the cheap caller", b.set(2, 0, 0), 2);
        check.due("one of the dear caller", b.set(1, 2, 0), 3);
        check.due("the dear caller's cost", b.cost(1), 40);
        Refusals.refused(check, "a caller's caller", c -> {
            int x = c.variable(0);
            for (int i = 0; i < 8; i++) {
                c.function();
            }
            for (int i = 6; i >= 0; i--) {
                c.set(i, 0, c.call(i + 1, x, x));
            }
            c.repeat(7, 1);
            c.repeat(0, 1);
            c.repeat(0, 1);
            c.repeat(0, 1);
        }, c -> c.statement(7, 4, 0, 1));
    }
}
