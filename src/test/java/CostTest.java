/** Promise 8: cost. */
public final class CostTest {
    public static void main(String[] args) {
        Check check = new Check("promise 8, cost");
        wrongCalls(check);
        expressions(check);
        statements(check);
        callsCostAsTheirFunctionsAre(check);
        check.finish();
    }

    private static void wrongCalls(Check check) {
        DerivativeCompiler c = new DerivativeCompiler();
        c.function();
        c.derive(0, 0);
        c.derive(1, 0);
        check.due("own", c.cost(0), 1);
        for (int wrong : new int[] {-1, 1, 2, 3, 8, Integer.MAX_VALUE, Integer.MIN_VALUE}) {
            check.due("cost(" + wrong + ")", c.cost(wrong), -1);
        }
    }

    private static void expressions(Check check) {
        int[] costs = {1, 3, 5, 7, 4, 4, 4, 7, 10, 7, 9, 13, 4, 6, 8};
        for (int i = 0; i < costs.length; i++) {
            Builder b = new Builder();
            int f = b.compiler.function();
            b.set(f, 0, expressionsIn(b)[i]);
            check.due("cost with expression " + i, b.compiler.cost(f), 2 + costs[i]);
        }
    }

    private static int[] expressionsIn(Builder b) {
        int empty = b.compiler.function();
        int x = b.variable(0);
        int e = b.sum(x, b.constant(1));
        return new int[] {
            x, e, b.difference(e, x), b.product(e, e), b.negative(e), b.power(e, 0), b.power(e, 1),
            b.power(e, 2), b.power(e, 3), b.size(e), b.lesser(e, x), b.greater(e, e), b.element(1, e),
            b.call(empty, e, x), b.call(empty, e, e),
        };
    }

    private static void statements(Check check) {
        Builder b = new Builder();
        int f = b.compiler.function();
        int x = b.variable(0);
        int sum = b.sum(x, x);
        int due = 1;
        b.set(f, 0, x);
        check.due("a variable's", b.compiler.cost(f), due += 2);
        b.setElement(f, 0, sum);
        check.due("an element's", b.compiler.cost(f), due += 4);
        b.doIf(f, sum);
        check.due("an if's", b.compiler.cost(f), due += 4);
        b.repeat(f, 3);
        check.due("a repeat's", b.compiler.cost(f), due += 1);
        b.doIf(f, x);
        check.due("an if's within a repeat", b.compiler.cost(f), due += 6);
        b.doElse(f);
        check.due("an else's", b.compiler.cost(f), due);
        b.repeat(f, 2);
        check.due("a repeat's within a repeat", b.compiler.cost(f), due += 3);
        b.set(f, 0, x);
        check.due("a variable's within two repeats", b.compiler.cost(f), due += 12);
        b.end(f);
        b.end(f);
        b.end(f);
        check.due("ends'", b.compiler.cost(f), due);
        b.set(f, 0, x);
        check.due("a variable's within an if", b.compiler.cost(f), due += 2);
    }

    private static void callsCostAsTheirFunctionsAre(Check check) {
        Builder b = new Builder();
        int f = b.compiler.function();
        int g = b.compiler.function();
        int h = b.compiler.function();
        int x = b.variable(0);
        int call = b.call(f, x, x);
        b.repeat(g, 2);
        b.setElement(g, 0, call);
        check.due("g", b.compiler.cost(g), 12);
        b.set(h, 0, b.call(g, x, call));
        check.due("h", b.compiler.cost(h), 1 + 1 + 1 + 1 + 4 + 12);
        b.repeat(f, 1);
        check.due("f grown", b.compiler.cost(f), 2);
        check.due("g with f grown", b.compiler.cost(g), 14);
        check.due("h with f grown", b.compiler.cost(h), 23);
        b.set(f, 0, x);
        check.due("f grown again", b.compiler.cost(f), 4);
        check.due("g with f grown again", b.compiler.cost(g), 18);
        check.due("h with f grown again", b.compiler.cost(h), 29);
        b.set(g, 0, x);
        check.due("g grown", b.compiler.cost(g), 22);
        check.due("h with g grown", b.compiler.cost(h), 33);
    }
}
