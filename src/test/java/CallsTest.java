import java.io.IOException;

/** Promise 10: calls. */
public final class CallsTest {
    public static void main(String[] args) throws IOException {
        Sentences promise = new Sentences("Promise 10: calls");
        promise.test("1 if the first function calls the second one, else 0", CallsTest::ownOnes);
        promise.test("1 if the first function calls the second one, else 0", CallsTest::empty);
        promise.test("1 if the first function calls the second one, else 0", CallsTest::longestChain);
        promise.test("1 if the first function calls the second one, else 0", CallsTest::refusedStatements);
        promise.test("(a derived one calls what the function that it is of calls, and not that itself)",
                CallsTest::derivedOnes);
        promise.test("REFUSED for no such functions.", CallsTest::noFunctions);
        promise.finish();
    }

    private static void ownOnes(Check check) {
        Builder b = new Builder();
        int x = b.variable(0);
        int f = b.function();
        int g = b.function();
        int h = b.function();
        int k = b.function();
        int byX = b.derive(f, 0);
        int byXY = b.derive(byX, 1);
        int callH = b.call(h, x, x);
        check.due("an expression alone", b.compiler.calls(g, h), 0);
        b.set(f, 0, b.sum(x, b.negative(b.call(g, x, x))));
        check.due("f calls g", b.compiler.calls(f, g), 1);
        check.due("f calls h, not yet", b.compiler.calls(f, h), 0);
        b.doIf(g, b.power(callH, 0));
        check.due("g calls h", b.compiler.calls(g, h), 1);
        check.due("f calls h through g", b.compiler.calls(f, h), 1);
        check.due("h calls g", b.compiler.calls(h, g), 0);
        check.due("g calls f", b.compiler.calls(g, f), 0);
        b.setElement(h, 0, b.element(0, b.call(k, x, x)));
        int[][] dues = {
            {0, 1, 1, 1, 0, 0}, {0, 0, 1, 1, 0, 0}, {0, 0, 0, 1, 0, 0},
            {0, 0, 0, 0, 0, 0}, {0, 1, 1, 1, 0, 0}, {0, 1, 1, 1, 0, 0},
        };
        for (int i = 0; i <= byXY; i++) {
            for (int j = 0; j <= byXY; j++) {
                check.due("calls(" + i + ", " + j + ")", b.compiler.calls(i, j), dues[i][j]);
            }
        }
    }

    private static void empty(Check check) {
        DerivativeCompiler c = new DerivativeCompiler();
        for (int i = 0; i < 8; i++) {
            c.function();
        }
        for (int i = 0; i < 8; i++) {
            for (int j = 0; j < 8; j++) {
                check.due("calls(" + i + ", " + j + ")", c.calls(i, j), 0);
            }
        }
    }

    private static void longestChain(Check check) {
        Builder b = new Builder();
        int x = b.variable(0);
        for (int i = 0; i < 8; i++) {
            b.function();
        }
        for (int i = 0; i < 7; i++) {
            b.doIf(i, b.call(i + 1, x, x));
        }
        for (int i = 0; i < 8; i++) {
            for (int j = 0; j < 8; j++) {
                check.due("calls(" + i + ", " + j + ")", b.compiler.calls(i, j), i < j ? 1 : 0);
            }
        }
    }

    private static void refusedStatements(Check check) {
        Builder b = new Builder();
        int x = b.variable(0);
        int f = b.function();
        int g = b.function();
        int call = b.call(g, x, x);
        check.due("a wrong variable", b.set(f, 6, call), -1);
        check.due("a wrong array", b.setElement(f, 2, call), -1);
        check.due("too dear", b.doIf(f, b.product(call, b.costing(35))), -1);
        check.due("f calls g", b.compiler.calls(f, g), 0);
        check.due("so g may call f", b.doIf(g, b.call(f, x, x)), 1);
        check.due("g calls f", b.compiler.calls(g, f), 1);
        check.due("and f may not call g", b.doIf(f, call), -1);
        check.due("f calls g", b.compiler.calls(f, g), 0);
    }

    private static void derivedOnes(Check check) {
        Builder b = new Builder();
        int x = b.variable(0);
        int f = b.function();
        int byX = b.derive(f, 0);
        int byXX = b.derive(byX, 0);
        int g = b.function();
        int h = b.function();
        int ofG = b.derive(g, 1);
        int call = b.call(g, x, x);
        for (int i = 0; i <= ofG; i++) {
            for (int j = 0; j <= ofG; j++) {
                check.due("calls(" + i + ", " + j + ") of nothing", b.compiler.calls(i, j), 0);
            }
        }
        b.set(f, 0, call);
        b.set(g, 0, b.call(h, x, x));
        int[] callers = {f, byX, byXX, g, ofG, h};
        int[][] dues = {{g, h}, {g, h}, {g, h}, {h}, {h}, {}};
        for (int i = 0; i < callers.length; i++) {
            for (int other = 0; other <= ofG; other++) {
                int due = 0;
                for (int called : dues[i]) {
                    due = called == other ? 1 : due;
                }
                check.due("calls(" + callers[i] + ", " + other + ")", b.compiler.calls(callers[i], other), due);
            }
        }
    }

    private static void noFunctions(Check check) {
        for (int wrong : Ways.NO_FUNCTIONS) {
            Refusals.refused(check, "calls(" + wrong + ", 0)", Ways::busy, c -> c.calls(wrong, 0));
            Refusals.refused(check, "calls(0, " + wrong + ")", Ways::busy, c -> c.calls(0, wrong));
            Refusals.refused(check, "calls(2, " + wrong + ")", Ways::busy, c -> c.calls(2, wrong));
            Refusals.refused(check, "calls of it and itself", Ways::busy, c -> c.calls(wrong, wrong));
        }
        Refusals.refused(check, "in a new object", Ways::nothing, c -> c.calls(0, 0));
        Refusals.refused(check, "of a ninth", Ways::fullOfOwnFunctions, c -> c.calls(8, 0));
        Refusals.refused(check, "with a ninth", Ways::fullOfOwnFunctions, c -> c.calls(0, 8));
    }
}
