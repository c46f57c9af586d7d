/** Promise 7: gradient. */
public final class GradientTest {
    private static final long NONE = DerivativeCompiler.NONE;

    public static void main(String[] args) {
        Check check = new Check("promise 7, gradient");
        wrongCalls(check);
        values(check);
        overBranchesAndLoops(check);
        overCallsAndArrays(check);
        check.finish();
    }

    private static void wrongCalls(Check check) {
        DerivativeCompiler c = new DerivativeCompiler();
        c.function();
        c.derive(0, 0);
        c.derive(1, 1);
        for (int wrong : new int[] {-1, 1, 2, 3, 8, Integer.MAX_VALUE, Integer.MIN_VALUE}) {
            check.due("gradient of " + wrong, c.gradient(wrong, 0, 1, 1), NONE);
        }
        for (int wrong : new int[] {-1, 2, Integer.MAX_VALUE, Integer.MIN_VALUE}) {
            check.due("gradient by " + wrong, c.gradient(0, wrong, 1, 1), NONE);
        }
        check.due("without statements, by x", c.gradient(0, 0, 4, 5), 1);
        check.due("without statements, by y", c.gradient(0, 1, 4, 5), 0);
    }

    private static void both(Check check, String what, Builder b, long x, long y, long byX, long byY) {
        check.due(what + " by x", b.compiler.gradient(0, 0, x, y), byX);
        check.due(what + " by y", b.compiler.gradient(0, 1, x, y), byY);
    }

    private static void values(Check check) {
        Builder b = new Builder();
        b.compiler.function();
        int x = b.variable(0);
        int y = b.variable(1);
        b.set(0, 0, b.difference(b.power(b.product(x, y), 3), b.negative(b.sum(x, b.constant(4)))));
        both(check, "(x y)^3 + x + 4", b, 2, 3, 325, 216);
        both(check, "(x y)^3 + x + 4", b, -1, 1L << 32, 1, 0);
        b = new Builder();
        b.compiler.function();
        x = b.variable(0);
        y = b.variable(1);
        b.set(0, 0, b.sum(b.size(x), b.lesser(b.product(x, y), b.greater(x, y))));
        both(check, "size and choices", b, -2, 3, 2, -2);
        both(check, "size of 0, lesser a", b, 0, 3, 3, 0);
        both(check, "lesser b, greater a", b, 5, 4, 2, 0);
        both(check, "all equal to 1", b, 1, 1, 2, 1);
        b = new Builder();
        b.compiler.function();
        b.set(0, 0, b.power(b.variable(0), 0));
        both(check, "power 0", b, 5, 5, 0, 0);
        b.set(0, 0, b.constant(5));
        both(check, "a constant", b, 5, 5, 0, 0);
    }

    private static void overBranchesAndLoops(Check check) {
        Builder b = new Builder();
        b.compiler.function();
        int x = b.variable(0);
        int y = b.variable(1);
        b.repeat(0, 3);
        b.doIf(0, b.difference(y, x));
        b.set(0, 0, b.product(x, y));
        b.doElse(0);
        b.set(0, 1, b.sum(y, y));
        // with 2 and 3: 6, then y = 6 (6 - 6 is not above 0), y = 12, and 6 at the end
        both(check, "a run that turns", b, 2, 3, 3, 2);
        // with 2 and 7: 14, then y = 14, then y = 28
        both(check, "a run that turns", b, 2, 7, 7, 2);
        // with -1 and 2: -2, -4, -8
        both(check, "a run that stays", b, -1, 2, 8, -12);
    }

    private static void overCallsAndArrays(Check check) {
        Builder b = new Builder();
        b.compiler.function();
        int g = b.compiler.function();
        int x = b.variable(0);
        int y = b.variable(1);
        int product = b.product(x, y);
        b.set(g, 5, y);
        b.setElement(g, 1, product);
        b.set(g, 0, b.element(1, y));
        int call = b.call(g, product, y);
        b.set(0, 2, call);
        b.set(0, 0, b.product(b.variable(2), x));
        // x^2 y^2
        both(check, "a call with an array", b, 3, 5, 150, 90);
        check.due("the callee by x", b.compiler.gradient(g, 0, 3, 5), 5);
        check.due("the callee by y", b.compiler.gradient(g, 1, 3, 5), 3);
    }
}
