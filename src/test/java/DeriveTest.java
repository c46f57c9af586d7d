import java.io.IOException;

/** Promise 5: derive. */
public final class DeriveTest {
    private static final int LOW = Ways.LOW;
    private static final int HIGH = Ways.HIGH;

    public static void main(String[] args) throws IOException {
        Sentences promise = new Sentences("Promise 5: derive");
        promise.test("Makes the derived function of a function of order 0 or 1", DeriveTest::ofOrders);
        promise.test("with respect to x (0) or y (1)", DeriveTest::directions);
        promise.test("answers its number.", DeriveTest::numbers);
        promise.test("Out of range", DeriveTest::outOfRange);
        promise.test("Out of range", DeriveTest::byOutOfRange);
        promise.test("of order 2", DeriveTest::ofOrderTwo);
        promise.test("or 8 were made: REFUSED.", DeriveTest::eight);
        promise.finish();
    }

    private static void ofOrders(Check check) {
        Builder b = new Builder();
        int f = b.function();
        check.due("of order 0", b.derive(f, 0), 1);
        check.due("of order 1", b.derive(1, 0), 2);
        check.due("of order 1 by y", b.derive(1, 1), 3);
        check.due("of order 0 again", b.derive(f, 0), 4);
        check.due("of the second one", b.derive(4, 0), 5);
        b.set(f, 0, b.power(b.variable(0), 3));
        long[] dues = {27, 27, 18, 0, 27, 18};
        for (int i = 0; i < dues.length; i++) {
            check.due("run(" + i + ", 3, 5)", b.run(i, 3, 5), dues[i]);
            check.due("order(" + i + ")", b.compiler.order(i), new int[] {0, 1, 2, 2, 1, 2}[i]);
        }
        check.due("count(2)", b.compiler.count(2), 1);
    }

    private static void directions(Check check) {
        Builder b = new Builder();
        int f = b.function();
        int x = b.variable(0);
        int y = b.variable(1);
        b.set(f, 0, b.product(b.power(x, 2), b.power(y, 3)));
        // x^2 y^3
        int byX = b.derive(f, 0);
        int byY = b.derive(f, 1);
        check.due("by x", b.run(byX, 5, 2), 80);
        check.due("by y", b.run(byY, 5, 2), 300);
        check.due("by x and x", b.run(b.derive(byX, 0), 5, 2), 16);
        check.due("by x and y", b.run(b.derive(byX, 1), 5, 2), 120);
        check.due("by y and x", b.run(b.derive(byY, 0), 5, 2), 120);
        check.due("by y and y", b.run(b.derive(byY, 1), 5, 2), 300);
    }

    private static void numbers(Check check) {
        DerivativeCompiler c = new DerivativeCompiler();
        check.due("own", c.function(), 0);
        check.due("by x", c.derive(0, 0), 1);
        check.due("by y", c.derive(0, 1), 2);
        check.due("refused", c.derive(0, 2), -1);
        check.due("by x and x", c.derive(1, 0), 3);
        check.due("by y and y", c.derive(2, 1), 4);
        check.due("the same again", c.derive(0, 0), 5);
        check.due("own", c.function(), 6);
        check.due("of that one", c.derive(6, 1), 7);
        check.due("count(1)", c.count(1), 8);
    }

    private static void outOfRange(Check check) {
        for (int by = 0; by <= 1; by++) {
            int direction = by;
            for (int function : Ways.NO_FUNCTIONS) {
                Refusals.refused(check, "of " + function, Ways::busy, c -> c.derive(function, direction));
            }
            Refusals.refused(check, "of nothing", Ways::nothing, c -> c.derive(0, direction));
        }
        for (int function : Ways.OWN) {
            Builder b = new Builder();
            Ways.busy(b);
            check.due("of " + function, b.derive(function, 0), Ways.FUNCTIONS);
        }
    }

    private static void byOutOfRange(Check check) {
        for (int by : new int[] {-1, LOW, 2, 3, 256, 1 << 16, HIGH}) {
            for (int function = 0; function < Ways.FUNCTIONS; function++) {
                int f = function;
                Refusals.refused(check, "of " + f + " by " + by, Ways::busy, c -> c.derive(f, by));
            }
        }
    }

    private static void ofOrderTwo(Check check) {
        for (int by = 0; by <= 1; by++) {
            int direction = by;
            Refusals.refused(check, "of order 2", Ways::busy, c -> c.derive(3, direction));
            Refusals.refused(check, "of order 2 without statements", b -> {
                b.function();
                b.derive(0, 1);
                b.derive(1, 0);
            }, c -> c.derive(2, direction));
            Builder b = new Builder();
            Ways.busy(b);
            check.due("of order 1", b.derive(2, by), Ways.FUNCTIONS);
            check.due("its order", b.compiler.order(Ways.FUNCTIONS), 2);
            check.due("of that one", b.derive(Ways.FUNCTIONS, by), -1);
        }
    }

    private static void eight(Check check) {
        Refusals.refused(check, "of an own one", Ways::fullOfOwnFunctions, c -> c.derive(0, 0));
        Refusals.refused(check, "of an own one, with derived ones", Ways::fullOfFunctions, c -> c.derive(4, 1));
        Refusals.refused(check, "of a derived one", Ways::fullOfFunctions, c -> c.derive(2, 0));
        Refusals.refused(check, "of the last one", Ways::fullOfFunctions, c -> c.derive(7, 0));
        Refusals.refused(check, "with all full", Ways::fullOfAll, c -> c.derive(7, 0));
        DerivativeCompiler c = new DerivativeCompiler();
        c.function();
        for (int i = 1; i < 8; i++) {
            check.due("derived", c.derive(0, 1), i);
        }
        check.due("a ninth", c.derive(0, 0), -1);
        check.due("count(1)", c.count(1), 8);
        check.due("order(7)", c.order(7), 1);
        check.due("order(8)", c.order(8), -1);
        check.due("run(7, 1, 1)", c.run(7, 1, 1), 0);
    }
}
