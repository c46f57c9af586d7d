import java.io.IOException;

/** Promise 7: gradient. */
public final class GradientTest {
    private static final long LOW = Long.MIN_VALUE;
    private static final long HIGH = Long.MAX_VALUE;

    public static void main(String[] args) throws IOException {
        Sentences promise = new Sentences("Promise 7: gradient");
        String derivative = "The derivative of an own function's result with respect to x (0) or y (1) at x and y";
        promise.test(derivative, GradientTest::values);
        promise.test(derivative, GradientTest::edges);
        promise.test(derivative, GradientTest::overBranchesAndLoops);
        promise.test(derivative, GradientTest::overCallsAndArrays);
        promise.test(derivative, GradientTest::asDerivedOnes);
        promise.test("No such function", GradientTest::noFunction);
        promise.test("or a derived one", GradientTest::derivedOnes);
        promise.test("or by not 0 .. 1: NONE.", GradientTest::wrongDirections);
        promise.finish();
    }

    private static void both(Check check, String what, Builder b, long x, long y, long byX, long byY) {
        String at = " at " + x + ", " + y;
        check.due(what + " by x" + at, b.compiler.gradient(0, 0, x, y), byX);
        check.due(what + " by y" + at, b.compiler.gradient(0, 1, x, y), byY);
    }

    private static void values(Check check) {
        Builder b = new Builder();
        b.function();
        both(check, "x", b, 4, 5, 1, 0);
        int x = b.variable(0);
        int y = b.variable(1);
        b.set(0, 0, b.difference(b.power(b.product(x, y), 3), b.negative(b.sum(x, b.constant(4)))));
        both(check, "(x y)^3 + x + 4", b, 2, 3, 325, 216);
        both(check, "(x y)^3 + x + 4", b, -1, 1L << 32, 1, 0);
        b = new Builder();
        b.function();
        x = b.variable(0);
        y = b.variable(1);
        b.set(0, 0, b.sum(b.size(x), b.lesser(b.product(x, y), b.greater(x, y))));
        both(check, "size and choices", b, -2, 3, 2, -2);
        both(check, "size of 0, lesser a", b, 0, 3, 3, 0);
        both(check, "lesser b, greater a", b, 5, 4, 2, 0);
        both(check, "all equal to 1", b, 1, 1, 2, 1);
    }

    private static void edges(Check check) {
        Builder b = new Builder();
        b.function();
        b.set(0, 0, b.product(b.variable(0), b.variable(1)));
        for (long x : new long[] {LOW, -1, 0, 1, HIGH}) {
            for (long y : new long[] {LOW, -1, 0, 1, HIGH}) {
                both(check, "x y", b, x, y, y, x);
            }
        }
        b = new Builder();
        b.function();
        b.set(0, 0, b.power(b.variable(0), 0));
        both(check, "power 0", b, 5, 5, 0, 0);
        both(check, "power 0 of 0", b, 0, 0, 0, 0);
        b.set(0, 0, b.constant(5));
        both(check, "a constant", b, 5, 5, 0, 0);
        b = new Builder();
        b.function();
        int size = b.size(b.variable(0));
        b.set(0, 0, b.sum(size, size));
        both(check, "twice a size of 0", b, 0, 5, 0, 0);
        both(check, "twice a size of the lowest", b, LOW, 5, -2, 0);
        both(check, "twice a size of the highest", b, HIGH, 5, 2, 0);
    }

    private static void overBranchesAndLoops(Check check) {
        Builder b = new Builder();
        b.function();
        int x = b.variable(0);
        int y = b.variable(1);
        b.repeat(0, 3);
        b.doIf(0, b.difference(y, x));
        b.set(0, 0, b.product(x, y));
        b.doElse(0);
        b.set(0, 1, b.sum(y, y));
        // with 2 and 3: 6, then y = 6 (6 - 6 is not above 0), y = 12, and 6 at the end
        both(check, "a run that turns", b, 2, 3, 3, 2);
        // with 2 and 7: 14, then y = 14, then y = 28
        both(check, "a run that turns", b, 2, 7, 7, 2);
        // with -1 and 2: -2, -4, -8
        both(check, "a run that stays", b, -1, 2, 8, -12);
    }

    private static void overCallsAndArrays(Check check) {
        Builder b = new Builder();
        b.function();
        int g = b.function();
        int x = b.variable(0);
        int y = b.variable(1);
        int product = b.product(x, y);
        b.set(g, 5, y);
        b.setElement(g, 1, product);
        b.set(g, 0, b.element(1, y));
        int call = b.call(g, product, y);
        b.set(0, 2, call);
        b.set(0, 0, b.product(b.variable(2), x));
        // x^2 y^2
        both(check, "a call with an array", b, 3, 5, 150, 90);
        check.due("the callee by x", b.compiler.gradient(g, 0, 3, 5), 5);
        check.due("the callee by y", b.compiler.gradient(g, 1, 3, 5), 3);
    }

    private static void asDerivedOnes(Check check) {
        for (int own : Ways.OWN) {
            Builder b = new Builder();
            Ways.busy(b);
            int byX = b.derive(own, 0);
            int byY = b.derive(own, 1);
            for (long x = -3; x <= 3; x++) {
                for (long y = -3; y <= 3; y++) {
                    String at = " of " + own + " at " + x + ", " + y;
                    check.due("by x" + at, b.compiler.gradient(own, 0, x, y), b.run(byX, x, y));
                    check.due("by y" + at, b.compiler.gradient(own, 1, x, y), b.run(byY, x, y));
                }
            }
        }
    }

    private static void noFunction(Check check) {
        for (int by = 0; by <= 1; by++) {
            int direction = by;
            for (int function : Ways.NO_FUNCTIONS) {
                Refusals.none(check, "of " + function, Ways::busy, c -> c.gradient(function, direction, 1, 1));
            }
            Refusals.none(check, "in a new object", Ways::nothing, c -> c.gradient(0, direction, 1, 1));
            Refusals.none(check, "of a ninth", Ways::fullOfOwnFunctions, c -> c.gradient(8, direction, 1, 1));
        }
    }

    private static void derivedOnes(Check check) {
        for (int by = 0; by <= 1; by++) {
            int direction = by;
            for (int function : Ways.DERIVED) {
                Refusals.none(check, "of " + function, Ways::busy, c -> c.gradient(function, direction, 1, 1));
            }
            Refusals.none(check, "of the last one", Ways::fullOfFunctions, c -> c.gradient(7, direction, 1, 1));
        }
        DerivativeCompiler c = new DerivativeCompiler();
        c.function();
        c.derive(0, 0);
        c.function();
        check.due("an own one behind it", c.gradient(2, 0, 1, 1), 1);
        check.due("an own one before it", c.gradient(0, 0, 1, 1), 1);
        check.due("the derived one", c.gradient(1, 0, 1, 1), -1000000000000000000L);
    }

    private static void wrongDirections(Check check) {
        for (int by : new int[] {-1, Ways.LOW, 2, 3, 256, 1 << 16, Ways.HIGH}) {
            for (int function = 0; function < Ways.FUNCTIONS; function++) {
                int f = function;
                Refusals.none(check, "of " + f + " by " + by, Ways::busy, c -> c.gradient(f, by, 1, 1));
            }
        }
    }
}
