import java.io.IOException;

/** Promise 3: function. */
public final class FunctionTest {
    public static void main(String[] args) throws IOException {
        Sentences promise = new Sentences("Promise 3: function");
        promise.test("Makes an own function without statements", FunctionTest::withoutStatements);
        promise.test("answers its number.", FunctionTest::numbers);
        promise.test("8 were made: REFUSED.", FunctionTest::eight);
        promise.finish();
    }

    private static void withoutStatements(Check check) {
        Builder b = new Builder();
        int x = b.variable(0);
        for (int i = 0; i < 8; i++) {
            check.due("function()", b.function(), i);
            check.due("its cost", b.cost(i), 1);
            check.due("its order", b.compiler.order(i), 0);
            check.due("its result", b.run(i, Long.MIN_VALUE, 9), Long.MIN_VALUE);
            check.due("by x", b.compiler.gradient(i, 0, 7, 9), 1);
            check.due("by y", b.compiler.gradient(i, 1, 7, 9), 0);
            check.due("count(2)", b.compiler.count(2), i);
            check.due("count(3)", b.compiler.count(3), 0);
            check.due("nothing to end", b.end(i), -1);
            for (int other = 0; other <= i; other++) {
                check.due("it calls none", b.compiler.calls(i, other), 0);
                check.due("none calls it", b.compiler.calls(other, i), 0);
            }
            check.due("an own one, which is given a statement", b.set(i, 0, x), 1);
        }
    }

    private static void numbers(Check check) {
        DerivativeCompiler c = new DerivativeCompiler();
        check.due("own", c.function(), 0);
        check.due("derived", c.derive(0, 0), 1);
        check.due("own again", c.function(), 2);
        check.due("refused", c.derive(3, 0), -1);
        check.due("own again", c.function(), 3);
        check.due("derived of order 2", c.derive(1, 0), 4);
        check.due("own again", c.function(), 5);
        check.due("count(1)", c.count(1), 6);
    }

    private static void eight(Check check) {
        Refusals.refused(check, "a ninth", Ways::fullOfOwnFunctions, DerivativeCompiler::function);
        Refusals.refused(check, "a ninth, with derived ones", Ways::fullOfFunctions, DerivativeCompiler::function);
        Refusals.refused(check, "a ninth, with all full", Ways::fullOfAll, DerivativeCompiler::function);
        for (int derived = 0; derived < 7; derived++) {
            DerivativeCompiler c = new DerivativeCompiler();
            for (int i = derived; i < 7; i++) {
                c.function();
            }
            for (int i = 0; i < derived; i++) {
                c.derive(0, i % 2);
            }
            check.due("an eighth beside " + derived + " derived ones", c.function(), 7);
            check.due("a ninth beside " + derived + " derived ones", c.function(), -1);
        }
        DerivativeCompiler c = new DerivativeCompiler();
        c.function();
        for (int i = 1; i < 8; i++) {
            c.derive(0, 1);
        }
        check.due("one own and seven derived ones", c.function(), -1);
        check.due("count(1)", c.count(1), 8);
    }
}
