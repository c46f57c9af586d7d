/** Promises 5 and 9: derive, and the order of functions. */
public final class DeriveTest {
    public static void main(String[] args) {
        Check check = new Check("promises 5 and 9, derive and order");
        numbersAndOrders(check);
        wrongCalls(check);
        full(check);
        goesByStatementsAsTheyAre(check);
        check.finish();
    }

    private static void numbersAndOrders(Check check) {
        DerivativeCompiler c = new DerivativeCompiler();
        check.due("own", c.function(), 0);
        check.due("by x", c.derive(0, 0), 1);
        check.due("by y", c.derive(0, 1), 2);
        check.due("by x and x", c.derive(1, 0), 3);
        check.due("by y and y", c.derive(2, 1), 4);
        check.due("the same again", c.derive(0, 0), 5);
        check.due("own", c.function(), 6);
        int[] orders = {0, 1, 1, 2, 2, 1, 0};
        for (int i = 0; i < orders.length; i++) {
            check.due("order(" + i + ")", c.order(i), orders[i]);
        }
        for (int wrong : new int[] {-1, 7, 8, Integer.MAX_VALUE, Integer.MIN_VALUE}) {
            check.due("order(" + wrong + ")", c.order(wrong), -1);
        }
    }

    private static void wrongCalls(Check check) {
        DerivativeCompiler c = new DerivativeCompiler();
        check.due("of nothing", c.derive(0, 0), -1);
        c.function();
        c.derive(0, 0);
        c.derive(1, 0);
        check.due("of order 2", c.derive(2, 0), -1);
        check.due("of order 2", c.derive(2, 1), -1);
        for (int wrong : new int[] {-1, 3, 8, Integer.MAX_VALUE, Integer.MIN_VALUE}) {
            check.due("of " + wrong, c.derive(wrong, 0), -1);
        }
        for (int wrong : new int[] {-1, 2, Integer.MAX_VALUE, Integer.MIN_VALUE}) {
            check.due("by " + wrong, c.derive(0, wrong), -1);
        }
        check.due("count(1)", c.count(1), 3);
    }

    private static void full(Check check) {
        DerivativeCompiler c = new DerivativeCompiler();
        c.function();
        for (int i = 1; i < 8; i++) {
            check.due("derived", c.derive(0, 1), i);
        }
        check.due("a ninth", c.derive(0, 0), -1);
        check.due("count(1)", c.count(1), 8);
        check.due("order(8)", c.order(8), -1);
    }

    private static void goesByStatementsAsTheyAre(Check check) {
        Builder b = new Builder();
        int f = b.compiler.function();
        int g = b.compiler.function();
        int byX = b.compiler.derive(f, 0);
        int byXX = b.compiler.derive(byX, 0);
        int x = b.variable(0);
        check.due("x by x", b.compiler.run(byX, 5, 2), 1);
        check.due("x by x and x", b.compiler.run(byXX, 5, 2), 0);
        b.set(f, 0, b.power(x, 2));
        check.due("x^2 by x", b.compiler.run(byX, 5, 2), 10);
        check.due("x^2 by x and x", b.compiler.run(byXX, 5, 2), 2);
        b.set(f, 0, b.call(g, x, x));
        check.due("g(x^2) by x", b.compiler.run(byX, 5, 2), 10);
        b.set(g, 0, b.product(x, b.variable(1)));
        check.due("(x^2)^2 by x", b.compiler.run(byX, 5, 2), 500);
        check.due("(x^2)^2 by x and x", b.compiler.run(byXX, 5, 2), 300);
    }
}
