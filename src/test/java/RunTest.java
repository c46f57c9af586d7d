import java.io.IOException;

/** Promise 6: run, of own and of derived functions. What the statements and expressions do is tested by terms. */
public final class RunTest {
    private static final long LOW = Long.MIN_VALUE;
    private static final long HIGH = Long.MAX_VALUE;

    public static void main(String[] args) throws IOException {
        Sentences promise = new Sentences("Promise 6: run");
        promise.test("Runs a function with x and y; its result.", RunTest::smallestAndLargest);
        promise.test("Runs a function with x and y; its result.", RunTest::changesNothing);
        promise.test("Runs a function with x and y; its result.", RunTest::whatOthersLeave);
        promise.test("Runs a function with x and y; its result.", RunTest::ownStores);
        promise.test("Runs a function with x and y; its result.", RunTest::loopsWithinLoops);
        promise.test("Runs a function with x and y; its result.", RunTest::deepExpressions);
        promise.test("Runs a function with x and y; its result.", RunTest::deepBlocks);
        promise.test("Runs a function with x and y; its result.", RunTest::deepCalls);
        promise.test("Runs a function with x and y; its result.", RunTest::longest);
        promise.test("No such function: NONE.", RunTest::noFunction);
        promise.finish();
    }

    private static void smallestAndLargest(Check check) {
        long[] values = {LOW, LOW + 1, -1, 0, 1, HIGH - 1, HIGH};
        Builder b = new Builder();
        int x = b.variable(0);
        int y = b.variable(1);
        Derivatives d = Derivatives.of(check, b, b.difference(b.product(x, y), y));
        for (long first : values) {
            for (long second : values) {
                d.due("x y - y", first, second, first * second - second, second, first - 1, 0, 1, 1);
            }
        }
    }

    private static void changesNothing(Check check) {
        Builder ran = new Builder();
        Builder kept = new Builder();
        Ways.busy(ran);
        Ways.busy(kept);
        for (int i = 0; i < 20; i++) {
            for (int f = 0; f < Ways.FUNCTIONS; f++) {
                ran.run(f, i * 7 - 50, 40 - i);
            }
        }
        java.util.List<Showing.Answer> answers = Showing.of(ran.compiler);
        java.util.List<Showing.Answer> dues = Showing.of(kept.compiler);
        for (int i = 0; i < dues.size(); i++) {
            check.due("after 100 runs " + dues.get(i).call(), answers.get(i).value(), dues.get(i).value());
        }
    }

    /** A long run, then a short one: nothing of the first may show in the second. */
    private static void whatOthersLeave(Check check) {
        Builder b = new Builder();
        int f = b.function();
        int empty = b.function();
        int byX = b.derive(empty, 0);
        int byXX = b.derive(byX, 0);
        int x = b.variable(0);
        b.repeat(f, 5);
        b.set(f, 0, b.power(x, 2));
        for (int i = 0; i < 5; i++) {
            check.due("x^32", b.run(f, 3, 1), 1853020188851841L);
            check.due("x", b.run(empty, 8, 9), 8);
            check.due("x by x", b.run(byX, 8, 9), 1);
            check.due("x by x and x", b.run(byXX, 8, 9), 0);
            check.due("x^32 backwards", b.compiler.gradient(f, 0, 1, 1), 32);
            check.due("x backwards", b.compiler.gradient(empty, 0, 8, 9), 1);
            check.due("x backwards by y", b.compiler.gradient(empty, 1, 8, 9), 0);
        }
    }

    /** A call has variables and arrays of its own, and leaves those of its caller alone. */
    private static void ownStores(Check check) {
        Builder b = new Builder();
        int f = b.function();
        int x = b.variable(0);
        int y = b.variable(1);
        int two = b.variable(2);
        int first = b.element(0, b.constant(0));
        int g = b.function();
        b.set(g, 2, b.sum(two, x));
        b.setElement(g, 0, b.sum(first, y));
        b.set(g, 0, b.sum(two, first));
        int call = b.call(g, y, x);
        b.set(f, 2, x);
        b.setElement(f, 0, y);
        b.set(f, 1, call);
        b.set(f, 1, two);
        b.set(f, 0, b.difference(b.variable(1), first));
        check.due("the callee", b.run(g, 3, 5), 8);
        check.due("the caller", b.run(f, 20, 3), 17);
        check.due("the same again", b.run(f, 20, 3), 17);
    }

    private static void loopsWithinLoops(Check check) {
        Builder b = new Builder();
        int f = b.function();
        int x = b.variable(0);
        b.repeat(f, 3);
        b.set(f, 0, b.product(x, b.variable(1)));
        b.end(f);
        b.repeat(f, 1);
        b.set(f, 0, b.sum(x, x));
        b.end(f);
        // 2 x y^3
        new Derivatives(check, b, f).due("loops", 5, 2, 80, 16, 120, 0, 24, 24, 120);
        b = new Builder();
        int g = b.function();
        b.repeat(g, 2);
        b.set(g, 2, b.constant(1));
        b.repeat(g, 2);
        b.doIf(g, b.variable(2));
        b.set(g, 0, b.negative(b.variable(0)));
        b.end(g);
        b.set(g, 2, b.constant(0));
        b.end(g);
        b.end(g);
        new Derivatives(check, b, g).due("a loop with a branch within another", 7, 0, 7, 1);
    }

    /** The deepest expression that a cost of 40 allows. */
    private static void deepExpressions(Check check) {
        Builder b = new Builder();
        Derivatives d = Derivatives.of(check, b, b.costing(38));
        check.due("its cost", b.cost(0), 40);
        d.due("37 negatives", 9, 0, -9, -1);
        b = new Builder();
        int e = b.power(b.variable(0), 3);
        for (int i = 5; i <= 38; i++) {
            e = b.power(e, 1);
        }
        d = Derivatives.of(check, b, e);
        check.due("its cost", b.cost(0), 40);
        d.due("powers of powers", -2, 0, -8, 12, 0, -12);
        b = new Builder();
        e = b.variable(1);
        for (int i = 0; i < 18; i++) {
            e = b.sum(e, b.variable(0));
        }
        d = Derivatives.of(check, b, e);
        check.due("its cost", b.cost(0), 39);
        d.due("18 sums", 2, 5, 41, 18, 1);
    }

    private static void deepBlocks(Check check) {
        Builder b = new Builder();
        int f = b.function();
        int x = b.variable(0);
        for (int i = 0; i < 11; i++) {
            b.repeat(f, 1);
        }
        b.set(f, 0, b.power(x, 2));
        new Derivatives(check, b, f).due("eleven repeats", 9, 0, 81, 18, 0, 2);
        b = new Builder();
        f = b.function();
        x = b.variable(0);
        for (int i = 0; i < 5; i++) {
            b.doIf(f, x);
            b.doElse(f);
        }
        b.repeat(f, 5);
        b.set(f, 0, b.sum(x, b.variable(1)));
        Derivatives d = new Derivatives(check, b, f);
        d.due("a repeat within five elses", -9, 1, -4, 1, 5);
        d.due("passed by", 9, 1, 9, 1);
    }

    private static void deepCalls(Check check) {
        Builder b = new Builder();
        int y = b.variable(1);
        int last = b.function();
        b.set(last, 0, b.power(y, 2));
        for (int i = 1; i < 7; i++) {
            int next = b.function();
            check.due("a caller more", b.set(next, 0, b.call(last, y, y)), 1);
            last = next;
        }
        check.due("its cost", b.cost(last), 35);
        int byY = b.derive(last, 1);
        check.due("seven functions deep", b.run(last, 0, 9), 81);
        check.due("by y", b.run(byY, 0, 9), 18);
        check.due("backwards", b.compiler.gradient(last, 1, 0, 9), 18);
        Builder eight = new Builder();
        int x = eight.variable(0);
        for (int i = 0; i < 8; i++) {
            eight.function();
        }
        for (int i = 1; i < 8; i++) {
            eight.set(i, 0, eight.call(i - 1, x, x));
        }
        check.due("the first one", eight.set(0, 0, eight.negative(x)), 1);
        check.due("its dearest caller", eight.cost(7), 39);
        check.due("eight functions deep", eight.run(7, 6, 0), -6);
        check.due("eight functions deep, backwards", eight.compiler.gradient(7, 0, 6, 0), -1);
    }

    /** The most that can be done at a cost of 40: nearly every part of it works something out. */
    private static void longest(Check check) {
        Builder b = new Builder();
        int f = b.function();
        int x = b.variable(0);
        b.repeat(f, 5);
        b.set(f, 0, b.power(x, 3));
        b.set(f, 0, x);
        check.due("its cost", b.cost(f), 37);
        Derivatives d = new Derivatives(check, b, f);
        d.due("x^243", -1, 0, -1, 243, 0, -243 * 242);
        d.due("x^243", 1, 0, 1, 243, 0, 243 * 242);
        b = new Builder();
        f = b.function();
        int e = b.constant(1);
        for (int i = 1; i < 19; i++) {
            e = b.sum(e, b.constant(1));
        }
        b.set(f, 0, e);
        check.due("its cost", b.cost(f), 39);
        new Derivatives(check, b, f).due("nineteen ones", 4, 5, 19);
    }

    private static void noFunction(Check check) {
        for (int function : Ways.NO_FUNCTIONS) {
            Refusals.none(check, "run of " + function, Ways::busy, c -> c.run(function, 1, 1));
            Refusals.none(check, "run of " + function + " with the lowest", Ways::busy, c -> c.run(function, LOW, LOW));
        }
        Refusals.none(check, "run in a new object", Ways::nothing, c -> c.run(0, 0, 0));
        Refusals.none(check, "run of a ninth", Ways::fullOfFunctions, c -> c.run(8, 0, 0));
        DerivativeCompiler c = new DerivativeCompiler();
        for (int i = 0; i < 8; i++) {
            check.due("not yet " + i, c.run(i, 6, 7), -1000000000000000000L);
            c.function();
            check.due("then " + i, c.run(i, 6, 7), 6);
        }
    }
}
