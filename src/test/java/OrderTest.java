import java.io.IOException;

/** Promise 9: order. */
public final class OrderTest {
    public static void main(String[] args) throws IOException {
        Sentences promise = new Sentences("Promise 9: order");
        promise.test("The order of a function", OrderTest::orders);
        promise.test("The order of a function; REFUSED.", OrderTest::noFunction);
        promise.finish();
    }

    private static void orders(Check check) {
        DerivativeCompiler c = new DerivativeCompiler();
        c.function();
        c.derive(0, 0);
        c.derive(0, 1);
        c.derive(1, 0);
        c.derive(2, 1);
        c.derive(0, 0);
        c.function();
        c.derive(6, 0);
        int[] orders = {0, 1, 1, 2, 2, 1, 0, 1};
        for (int i = 0; i < orders.length; i++) {
            check.due("order(" + i + ")", c.order(i), orders[i]);
        }
        Builder b = new Builder();
        Ways.busy(b);
        int[] busy = {0, 0, 1, 2, 0};
        for (int i = 0; i < busy.length; i++) {
            check.due("order(" + i + ") of a busy one", b.compiler.order(i), busy[i]);
        }
    }

    private static void noFunction(Check check) {
        for (int function : Ways.NO_FUNCTIONS) {
            Refusals.refused(check, "of " + function, Ways::busy, c -> c.order(function));
        }
        Refusals.refused(check, "in a new object", Ways::nothing, c -> c.order(0));
        Refusals.refused(check, "of a ninth", Ways::fullOfFunctions, c -> c.order(8));
        DerivativeCompiler c = new DerivativeCompiler();
        for (int i = 0; i < 8; i++) {
            check.due("not yet " + i, c.order(i), -1);
            c.function();
            check.due("then " + i, c.order(i), 0);
        }
    }
}
