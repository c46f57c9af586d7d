/** Promise 6: run, of own and of derived functions. */
public final class RunTest {
    private static final long LOW = Long.MIN_VALUE;
    private static final long NONE = DerivativeCompiler.NONE;

    private final Check check;

    private RunTest(Check check) {
        this.check = check;
    }

    public static void main(String[] args) {
        Check check = new Check("promise 6, run");
        RunTest test = new RunTest(check);
        test.noSuchFunction();
        test.startsWithZeros();
        test.arithmetic();
        test.powers();
        test.sizes();
        test.choices();
        test.branches();
        test.loops();
        test.lackingEnds();
        test.arrays();
        test.ownStores();
        test.callsWithin();
        test.noneAsValue();
        test.deep();
        check.finish();
    }

    /** The function, the first one made, and its derivatives by x, y, x x, x y, y x and y y. */
    private void all(String what, Builder b, int f, long x, long y, long... dues) {
        DerivativeCompiler c = b.compiler;
        if (c.count(1) == 1) {
            int byX = c.derive(f, 0);
            int byY = c.derive(f, 1);
            c.derive(byX, 0);
            c.derive(byX, 1);
            c.derive(byY, 0);
            c.derive(byY, 1);
        }
        for (int i = 0; i < dues.length; i++) {
            check.due(what + ", derivative " + i + " at " + x + ", " + y, c.run(f + i, x, y), dues[i]);
        }
    }

    private void noSuchFunction() {
        DerivativeCompiler c = new DerivativeCompiler();
        c.function();
        c.derive(0, 0);
        for (int wrong : new int[] {-1, 2, 8, Integer.MAX_VALUE, Integer.MIN_VALUE}) {
            check.due("run(" + wrong + ")", c.run(wrong, 1, 1), NONE);
        }
    }

    private void startsWithZeros() {
        for (int i = 0; i < 6; i++) {
            Builder b = new Builder();
            int f = b.compiler.function();
            b.set(f, 0, b.variable(i));
            long[] values = {11, 13, 0, 0, 0, 0};
            all("variable " + i, b, f, 11, 13, values[i], i == 0 ? 1 : 0, i == 1 ? 1 : 0, 0, 0, 0, 0);
        }
        for (int array = 0; array < 2; array++) {
            Builder b = new Builder();
            int f = b.compiler.function();
            b.set(f, 0, b.element(array, b.variable(0)));
            for (int place = 0; place < 4; place++) {
                all("element", b, f, place, 1, 0, 0, 0, 0, 0, 0, 0);
            }
        }
    }

    private void arithmetic() {
        Builder b = new Builder();
        int f = b.compiler.function();
        int x = b.variable(0);
        int y = b.variable(1);
        b.set(f, 0, b.difference(b.product(b.sum(x, b.constant(-3)), b.product(x, y)), b.negative(y)));
        // (x - 3) x y + y
        all("polynomial", b, f, 5, 7, 77, 49, 11, 14, 7, 7, 0);
        all("polynomial", b, f, -2, -1, -11, 7, 11, -2, -7, -7, 0);
        Builder sums = new Builder();
        int h = sums.compiler.function();
        x = sums.variable(0);
        y = sums.variable(1);
        int product = sums.product(x, y);
        int square = sums.power(y, 2);
        // (2 x y + y^2) - (x y - y^2) = x y + 2 y^2
        sums.set(h, 0, sums.difference(sums.sum(sums.sum(product, product), square), sums.difference(product, square)));
        all("sums", sums, h, 3, 5, 65, 5, 23, 0, 1, 1, 4);
        Builder wraps = new Builder();
        int g = wraps.compiler.function();
        wraps.set(g, 0, wraps.product(wraps.variable(0), wraps.sum(wraps.variable(0), wraps.variable(1))));
        all("wrapping", wraps, g, LOW, LOW, 0, LOW, LOW, 2, 1, 1, 0);
        all("wrapping", wraps, g, Long.MAX_VALUE, 1, LOW, -1, Long.MAX_VALUE, 2, 1, 1, 0);
    }

    private void powers() {
        long[][] dues = {{1, 0, 0}, {-5, 1, 0}, {25, -10, 2}, {-125, 75, -30}};
        for (int power = 0; power <= 3; power++) {
            Builder b = new Builder();
            int f = b.compiler.function();
            b.set(f, 0, b.power(b.variable(1), power));
            long[] due = dues[power];
            all("power " + power, b, f, 4, -5, due[0], 0, due[1], 0, 0, 0, due[2]);
        }
        Builder zero = new Builder();
        int f = zero.compiler.function();
        zero.set(f, 0, zero.power(zero.variable(0), 0));
        all("0 to the power 0", zero, f, 0, 0, 1, 0, 0, 0, 0, 0, 0);
        Builder inner = new Builder();
        int g = inner.compiler.function();
        inner.set(g, 0, inner.power(inner.product(inner.variable(0), inner.variable(1)), 3));
        // (x y)^3
        all("a product's power", inner, g, 2, 3, 216, 324, 216, 324, 324, 324, 144);
    }

    private void sizes() {
        Builder b = new Builder();
        int f = b.compiler.function();
        b.set(f, 0, b.size(b.product(b.variable(0), b.variable(1))));
        all("size", b, f, 2, 3, 6, 3, 2, 0, 1, 1, 0);
        all("size", b, f, -2, 3, 6, -3, 2, 0, -1, -1, 0);
        all("size of 0", b, f, 0, 3, 0, 0, 0, 0, 0, 0, 0);
        all("size of the lowest", b, f, LOW, 1, LOW, -1, LOW, 0, -1, -1, 0);
    }

    private void choices() {
        Builder b = new Builder();
        int f = b.compiler.function();
        int x = b.variable(0);
        int y = b.variable(1);
        b.set(f, 0, b.lesser(b.power(x, 2), b.product(x, y)));
        all("lesser, a", b, f, 2, 3, 4, 4, 0, 2, 0, 0, 0);
        all("lesser, b", b, f, 3, 2, 6, 2, 3, 0, 1, 1, 0);
        all("lesser, equal", b, f, 3, 3, 9, 6, 0, 2, 0, 0, 0);
        Builder g = new Builder();
        int h = g.compiler.function();
        x = g.variable(0);
        y = g.variable(1);
        g.set(h, 0, g.greater(g.power(x, 2), g.product(x, y)));
        all("greater, a", g, h, 3, 2, 9, 6, 0, 2, 0, 0, 0);
        all("greater, b", g, h, 2, 3, 6, 3, 2, 0, 1, 1, 0);
        all("greater, equal", g, h, 3, 3, 9, 6, 0, 2, 0, 0, 0);
        Builder far = new Builder();
        int k = far.compiler.function();
        far.set(k, 0, far.lesser(far.variable(0), far.variable(1)));
        all("far apart", far, k, LOW, 1, LOW, 1, 0, 0, 0, 0, 0);
        all("far apart", far, k, Long.MAX_VALUE, -1, -1, 0, 1, 0, 0, 0, 0);
    }

    private void branches() {
        Builder b = new Builder();
        int f = b.compiler.function();
        int x = b.variable(0);
        int y = b.variable(1);
        b.doIf(f, b.difference(x, y));
        b.doIf(f, y);
        b.set(f, 0, b.product(x, y));
        b.doElse(f);
        b.set(f, 0, b.sum(x, y));
        b.end(f);
        b.doElse(f);
        b.set(f, 0, b.negative(x));
        b.end(f);
        b.set(f, 0, b.sum(x, x));
        all("both", b, f, 5, 3, 30, 6, 10, 0, 2, 2, 0);
        all("the first alone", b, f, 5, 0, 10, 2, 2, 0, 0, 0, 0);
        all("the first alone", b, f, 5, -1, 8, 2, 2, 0, 0, 0, 0);
        all("none, equal", b, f, 3, 3, -6, -2, 0, 0, 0, 0, 0);
        all("none", b, f, 2, 3, -4, -2, 0, 0, 0, 0, 0);
    }

    private void loops() {
        Builder b = new Builder();
        int f = b.compiler.function();
        int x = b.variable(0);
        b.repeat(f, 3);
        b.set(f, 0, b.product(x, b.variable(1)));
        b.end(f);
        b.repeat(f, 1);
        b.set(f, 0, b.sum(x, x));
        b.end(f);
        // 2 x y^3
        all("repeats", b, f, 5, 2, 80, 16, 120, 0, 24, 24, 120);
        Builder nested = new Builder();
        int g = nested.compiler.function();
        nested.repeat(g, 2);
        nested.set(g, 2, nested.constant(1));
        nested.repeat(g, 2);
        nested.doIf(g, nested.variable(2));
        nested.set(g, 0, nested.negative(nested.variable(0)));
        nested.end(g);
        nested.set(g, 2, nested.constant(0));
        nested.end(g);
        nested.end(g);
        all("nested", nested, g, 7, 0, 7, 1, 0, 0, 0, 0, 0);
    }

    private void lackingEnds() {
        Builder b = new Builder();
        int f = b.compiler.function();
        int x = b.variable(0);
        int y = b.variable(1);
        int sum = b.sum(x, y);
        b.repeat(f, 2);
        b.doIf(f, y);
        check.due("nothing within yet", b.compiler.run(f, 4, 1), 4);
        b.repeat(f, 2);
        b.set(f, 0, sum);
        check.due("all of them lack", b.compiler.count(3), 3);
        all("lacking", b, f, 10, 1, 14, 1, 4, 0, 0, 0, 0);
        all("lacking", b, f, 10, -1, 10, 1, 0, 0, 0, 0, 0);
        b.end(f);
        b.doElse(f);
        b.set(f, 0, b.negative(x));
        all("lacking behind an else", b, f, 10, 0, 10, 1, 0, 0, 0, 0, 0);
        b.set(f, 0, b.constant(3));
        all("more behind an else", b, f, 10, 0, 3, 0, 0, 0, 0, 0, 0);
        all("more behind an else, passed by", b, f, 10, 1, 14, 1, 4, 0, 0, 0, 0);
    }

    private void arrays() {
        for (int place = -6; place <= 6; place++) {
            Builder b = new Builder();
            int f = b.compiler.function();
            int x = b.variable(0);
            int y = b.variable(1);
            b.set(f, 5, b.constant(place));
            b.setElement(f, 0, b.power(x, 2));
            b.setElement(f, 1, b.product(x, y));
            b.set(f, 5, b.constant(place + 1));
            b.setElement(f, 1, y);
            b.set(f, 0, b.element(1, b.constant(place + 4)));
            all("array 1, place " + place, b, f, 3, 7, 21, 7, 3, 0, 1, 1, 0);
            b.set(f, 0, b.element(0, b.constant(place - 4)));
            all("array 0, place " + place, b, f, 3, 7, 9, 6, 0, 2, 0, 0, 0);
            b.set(f, 0, b.element(0, b.constant(place + 1)));
            all("array 0, beside " + place, b, f, 3, 7, 0, 0, 0, 0, 0, 0, 0);
        }
        Builder b = new Builder();
        int f = b.compiler.function();
        b.set(f, 5, b.variable(0));
        b.setElement(f, 0, b.variable(1));
        b.set(f, 0, b.element(0, b.variable(0)));
        all("a place has no derivative", b, f, LOW + 3, 7, 7, 0, 1, 0, 0, 0, 0);
        all("a place has no derivative", b, f, -5, 7, 7, 0, 1, 0, 0, 0, 0);
    }

    /** A call has variables and arrays of its own, and leaves those of its caller alone. */
    private void ownStores() {
        Builder b = new Builder();
        int f = b.compiler.function();
        int x = b.variable(0);
        int y = b.variable(1);
        int two = b.variable(2);
        int first = b.element(0, b.constant(0));
        int g = b.compiler.function();
        b.set(g, 2, b.sum(two, x));
        b.setElement(g, 0, b.sum(first, y));
        b.set(g, 0, b.sum(two, first));
        int call = b.call(g, y, x);
        b.set(f, 2, x);
        b.setElement(f, 0, y);
        b.set(f, 1, call);
        b.set(f, 1, two);
        b.set(f, 0, b.difference(b.variable(1), first));
        check.due("the callee", b.compiler.run(g, 3, 5), 8);
        check.due("the caller", b.compiler.run(f, 20, 3), 17);
        check.due("the same again", b.compiler.run(f, 20, 3), 17);
    }

    private void callsWithin() {
        Builder b = new Builder();
        int f = b.compiler.function();
        int x = b.variable(0);
        int y = b.variable(1);
        int product = b.product(x, y);
        int byX = b.compiler.derive(f, 0);
        int byXY = b.compiler.derive(byX, 1);
        int byXX = b.compiler.derive(byX, 0);
        int g = b.compiler.function();
        b.set(g, 0, b.product(product, y));
        // g = x y^2, f = g(x y, x + y) = x y (x + y)^2
        b.set(f, 0, b.call(g, product, b.sum(x, y)));
        check.due("f", b.compiler.run(f, 2, 3), 150);
        check.due("f by x", b.compiler.run(byX, 2, 3), 135);
        check.due("f by x and y", b.compiler.run(byXY, 2, 3), 87);
        check.due("f by x and x", b.compiler.run(byXX, 2, 3), 72);
    }

    private void noneAsValue() {
        Builder b = new Builder();
        int f = b.compiler.function();
        check.due("NONE as a value", b.compiler.run(f, NONE, 0), NONE);
        b.set(f, 0, b.sum(b.variable(0), b.constant(1)));
        check.due("NONE as a value", b.compiler.run(f, NONE - 1, 0), NONE);
    }

    /** The deepest that a cost of 40 allows: in an expression, in blocks, in calls. */
    private void deep() {
        Builder b = new Builder();
        int f = b.compiler.function();
        int e = b.variable(0);
        for (int i = 1; i < 38; i++) {
            e = b.negative(e);
        }
        b.set(f, 0, e);
        all("deep negatives", b, f, 9, 0, -9, -1, 0, 0, 0, 0, 0);
        Builder blocks = new Builder();
        int g = blocks.compiler.function();
        int x = blocks.variable(0);
        for (int i = 0; i < 11; i++) {
            blocks.repeat(g, 1);
        }
        blocks.set(g, 0, blocks.power(x, 2));
        all("deep blocks", blocks, g, 9, 0, 81, 18, 0, 2, 0, 0, 0);
        Builder chain = new Builder();
        int y = chain.variable(1);
        int last = chain.compiler.function();
        chain.set(last, 0, chain.power(y, 2));
        for (int i = 1; i < 7; i++) {
            int next = chain.compiler.function();
            check.due("a caller more", chain.set(next, 0, chain.call(last, y, y)), 1);
            last = next;
        }
        check.due("its cost", chain.compiler.cost(last), 35);
        int byY = chain.compiler.derive(last, 1);
        check.due("deep calls", chain.compiler.run(last, 0, 9), 81);
        check.due("deep calls by y", chain.compiler.run(byY, 0, 9), 18);
        check.due("deep calls backwards", chain.compiler.gradient(last, 1, 0, 9), 18);
    }
}
