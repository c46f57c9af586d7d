import java.io.IOException;

/** What the terms say of values, expressions and places. */
public final class TermsOfValuesTest {
    private static final long LOW = Long.MIN_VALUE;
    private static final long HIGH = Long.MAX_VALUE;
    private static final int LOW_INT = Integer.MIN_VALUE;
    private static final int HIGH_INT = Integer.MAX_VALUE;

    public static void main(String[] args) throws IOException {
        Sentences terms = new Sentences("Terms");
        terms.test("VALUES are longs", TermsOfValuesTest::longs);
        terms.test("all arithmetic wraps", TermsOfValuesTest::sumsWrap);
        terms.test("all arithmetic wraps", TermsOfValuesTest::productsWrap);
        terms.test("all arithmetic wraps", TermsOfValuesTest::powersWrap);
        terms.test("all arithmetic wraps", TermsOfValuesTest::negativesAndSizesWrap);
        terms.test("all arithmetic wraps", TermsOfValuesTest::derivativesWrap);
        terms.test("all arithmetic wraps", TermsOfValuesTest::callsAndLoopsWrap);
        terms.test("EXPRESSIONS 0 .. 79 are numbered as they are made.", TermsOfValuesTest::numbers);
        terms.test("0 the constant a", TermsOfValuesTest::constants);
        terms.test("1 the variable a (0 .. 5)", TermsOfValuesTest::variables);
        terms.test("2 sum, 3 difference, 4 product of the expressions a and b", TermsOfValuesTest::twoParts);
        terms.test("5 expression a, negative", TermsOfValuesTest::negatives);
        terms.test("6 expression a to the power b (0 .. 3; power 0 is 1)", TermsOfValuesTest::powers);
        terms.test("7 the size of a (negative if a is below 0)", TermsOfValuesTest::sizes);
        terms.test("8 the lesser, 9 the greater of a and b", TermsOfValuesTest::choices);
        terms.test("10 the element of the array (0 .. 1) b at the place that expression a says",
                TermsOfValuesTest::elements);
        terms.test("11 the call of the own function c with the expressions a and b", TermsOfValuesTest::callsOf);
        terms.test("Expressions named must have been made before.", TermsOfValuesTest::madeBefore);
        terms.test("A PLACE is the remainder 0 .. 3 of a value by 4.", TermsOfValuesTest::places);
        terms.finish();
    }

    private static void longs(Check check) {
        for (long value : new long[] {LOW, LOW + 1, LOW_INT - 1L, -1, 0, 1, HIGH_INT + 1L, HIGH - 1, HIGH}) {
            Builder b = new Builder();
            Derivatives x = Derivatives.of(check, b, b.variable(0));
            x.due("x", value, 5, value, 1);
            b = new Builder();
            Derivatives y = Derivatives.of(check, b, b.variable(1));
            y.due("y", 5, value, value, 0, 1);
        }
    }

    private static void sumsWrap(Check check) {
        Builder b = new Builder();
        Derivatives sum = Derivatives.of(check, b, b.sum(b.variable(0), b.variable(1)));
        sum.due("a sum", HIGH, 1, LOW, 1, 1);
        sum.due("a sum", LOW, -1, HIGH, 1, 1);
        sum.due("a sum", LOW, LOW, 0, 1, 1);
        sum.due("a sum", HIGH, HIGH, -2, 1, 1);
        sum.due("a sum that does not wrap", LOW, HIGH, -1, 1, 1);
        b = new Builder();
        Derivatives difference = Derivatives.of(check, b, b.difference(b.variable(0), b.variable(1)));
        difference.due("a difference", LOW, 1, HIGH, 1, -1);
        difference.due("a difference", HIGH, -1, LOW, 1, -1);
        difference.due("a difference", 0, LOW, LOW, 1, -1);
        difference.due("a difference", LOW, HIGH, 1, 1, -1);
        difference.due("a difference that does not wrap", LOW, LOW, 0, 1, -1);
    }

    private static void productsWrap(Check check) {
        Builder b = new Builder();
        Derivatives product = Derivatives.of(check, b, b.product(b.variable(0), b.variable(1)));
        product.due("a product", LOW, -1, LOW, -1, LOW, 0, 1, 1);
        product.due("a product", 1L << 32, 1L << 32, 0, 1L << 32, 1L << 32, 0, 1, 1);
        product.due("a product", HIGH, HIGH, 1, HIGH, HIGH, 0, 1, 1);
        product.due("a product", HIGH, 2, -2, 2, HIGH, 0, 1, 1);
        product.due("a product", 3037000500L, 3037000500L, -9223372036709301616L,
                3037000500L, 3037000500L, 0, 1, 1);
        product.due("a product beyond an int", 1L << 31, 2, 1L << 32, 2, 1L << 31, 0, 1, 1);
    }

    private static void powersWrap(Check check) {
        Builder b = new Builder();
        Derivatives cube = Derivatives.of(check, b, b.power(b.variable(0), 3));
        cube.due("a cube", HIGH, 0, HIGH, 3, 0, -6);
        cube.due("a cube", LOW, 0, 0, 0, 0, 0);
        cube.due("a cube", LOW + 1, 0, LOW + 1, 3, 0, 6);
        cube.due("a cube", 1L << 22, 0, 0, 3L << 44, 0, 6L << 22);
        cube.due("a cube", 1L << 21, 0, LOW, 3L << 42, 0, 6L << 21);
        cube.due("a cube", -(1L << 21), 0, LOW, 3L << 42, 0, -(6L << 21));
        b = new Builder();
        Derivatives square = Derivatives.of(check, b, b.power(b.variable(1), 2));
        square.due("a square", 0, LOW, 0, 0, 0, 0, 0, 0, 2);
        square.due("a square", 0, HIGH, 1, 0, -2, 0, 0, 0, 2);
        square.due("a square", 0, 3037000500L, -9223372036709301616L, 0, 6074001000L, 0, 0, 0, 2);
    }

    private static void negativesAndSizesWrap(Check check) {
        Builder b = new Builder();
        Derivatives negative = Derivatives.of(check, b, b.negative(b.variable(0)));
        negative.due("the negative of the lowest", LOW, 0, LOW, -1);
        negative.due("the negative of the highest", HIGH, 0, LOW + 1, -1);
        b = new Builder();
        Derivatives size = Derivatives.of(check, b, b.size(b.variable(0)));
        size.due("the size of the lowest", LOW, 0, LOW, -1);
        size.due("the size of the lowest but one", LOW + 1, 0, HIGH, -1);
        size.due("the size of the highest", HIGH, 0, HIGH, 1);
    }

    private static void derivativesWrap(Check check) {
        Builder b = new Builder();
        int x = b.variable(0);
        int y = b.variable(1);
        Derivatives both = Derivatives.of(check, b, b.product(b.product(x, y), b.sum(x, y)));
        // x^2 y + x y^2: by x it is 2 x y + y^2, by y it is x^2 + 2 x y
        both.due("x y (x + y)", HIGH, 1, LOW, -1, -1, 2, 0, 0, -2);
        both.due("x y (x + y)", LOW, LOW, 0, 0, 0, 0, 0, 0, 0);
        both.due("x y (x + y)", 1L << 62, 1L << 62, 0, 0, 0, LOW, 0, 0, LOW);
        both.due("x y (x + y)", 1L << 32, 1L << 31, 0, 1L << 62, 0, 1L << 32, 3L << 32, 3L << 32, 1L << 33);
    }

    private static void callsAndLoopsWrap(Check check) {
        Builder b = new Builder();
        int f = b.function();
        int g = b.function();
        int x = b.variable(0);
        int y = b.variable(1);
        int product = b.product(x, y);
        b.set(g, 0, product);
        b.set(f, 0, b.call(g, product, y));
        // x y^2
        Derivatives call = new Derivatives(check, b, f);
        call.due("a call's product", 3, HIGH, 3, 1, -6, 0, -2, -2, 6);
        call.due("a call's product", 1L << 32, 1L << 16, 0, 1L << 32, 1L << 49, 0, 1L << 17, 1L << 17, 1L << 33);
        b = new Builder();
        f = b.function();
        b.repeat(f, 5);
        b.set(f, 0, b.sum(b.variable(0), b.variable(1)));
        Derivatives loop = new Derivatives(check, b, f);
        loop.due("a loop's sum", HIGH, HIGH, -6, 1, 5);
    }

    private static void numbers(Check check) {
        DerivativeCompiler c = new DerivativeCompiler();
        for (int i = 0; i < 80; i++) {
            check.due("expression " + i, c.expression(i % 2, i % 6, 0, 0), i);
        }
        check.due("one more", c.expression(0, 0, 0, 0), -1);
        check.due("function()", c.function(), 0);
        check.due("the first one in use", c.statement(0, 0, 1, 0), 1);
        check.due("the last one in use", c.statement(0, 0, 0, 79), 2);
        // the expression 79 is the variable 79 % 6, which is 1, and that has become 0
        check.due("run(0, 3, 4)", c.run(0, 3, 4), 0);
    }

    private static void constants(Check check) {
        for (int value : new int[] {LOW_INT, LOW_INT + 1, -1, 0, 1, HIGH_INT - 1, HIGH_INT}) {
            Builder b = new Builder();
            Derivatives.of(check, b, b.constant(value)).due("a constant", 3, 4, value);
        }
        Builder b = new Builder();
        int high = b.constant(HIGH_INT);
        Derivatives.of(check, b, b.sum(high, high)).due("constants beyond an int", 3, 4, 4294967294L);
        b = new Builder();
        int low = b.constant(LOW_INT);
        Derivatives.of(check, b, b.negative(low)).due("a constant beyond an int", 3, 4, 2147483648L);
        b = new Builder();
        low = b.constant(LOW_INT);
        Derivatives.of(check, b, b.product(low, low)).due("constants beyond an int", 3, 4, 1L << 62);
    }

    private static void variables(Check check) {
        for (int i = 0; i < 6; i++) {
            Builder b = new Builder();
            int f = b.function();
            int y = b.variable(1);
            check.due("variable " + i + " is given y", b.set(f, i, y), 1);
            b.set(f, 0, b.variable(i));
            check.due("and read", b.run(f, 3, 4), 4);
        }
        Builder b = new Builder();
        check.due("variable 6", b.variable(6), -1);
        check.due("variable -1", b.variable(-1), -1);
        check.due("variable 5", b.variable(5), 0);
        check.due("variable 0", b.variable(0), 1);
    }

    private static void twoParts(Check check) {
        Builder b = new Builder();
        int x = b.variable(0);
        Derivatives.of(check, b, b.sum(x, x)).due("x + x", 7, 0, 14, 2);
        b = new Builder();
        x = b.variable(0);
        Derivatives.of(check, b, b.difference(x, x)).due("x - x", 7, 0, 0, 0);
        b = new Builder();
        x = b.variable(0);
        Derivatives.of(check, b, b.product(x, x)).due("x x", 7, 0, 49, 14, 0, 2);
        b = new Builder();
        Derivatives.of(check, b, b.difference(b.constant(0), b.variable(1))).due("0 - y", 7, 9, -9, 0, -1);
    }

    private static void negatives(Check check) {
        Builder b = new Builder();
        Derivatives negative = Derivatives.of(check, b, b.negative(b.variable(0)));
        negative.due("a negative", 1, 0, -1, -1);
        negative.due("a negative", 0, 0, 0, -1);
        negative.due("a negative", -1, 0, 1, -1);
    }

    private static void powers(Check check) {
        long[] bases = {-2, -1, 0, 1, 2};
        long[][] dues = {{1, 1, 1, 1, 1}, {-2, -1, 0, 1, 2}, {4, 1, 0, 1, 4}, {-8, -1, 0, 1, 8}};
        for (int power = 0; power <= 3; power++) {
            Builder b = new Builder();
            int f = b.function();
            check.due("power " + power, b.set(f, 0, b.power(b.variable(0), power)), 1);
            for (int i = 0; i < bases.length; i++) {
                check.due(bases[i] + " to the power " + power, b.run(f, bases[i], 0), dues[power][i]);
            }
            check.due("the lowest to the power " + power, b.run(f, LOW, 0), power == 0 ? 1 : power == 1 ? LOW : 0);
        }
        Builder b = new Builder();
        int x = b.variable(0);
        check.due("power 4", b.power(x, 4), -1);
        check.due("power -1", b.power(x, -1), -1);
    }

    private static void sizes(Check check) {
        Builder b = new Builder();
        Derivatives size = Derivatives.of(check, b, b.size(b.variable(1)));
        size.due("the size of 1", 0, 1, 1, 0, 1);
        size.due("the size of 0", 0, 0, 0, 0, 0);
        size.due("the size of -1", 0, -1, 1, 0, -1);
        size.due("the size of the highest", 0, HIGH, HIGH, 0, 1);
        size.due("the size of the lowest but one", 0, LOW + 1, HIGH, 0, -1);
        size.due("the size of the lowest", 0, LOW, LOW, 0, -1);
    }

    private static void choices(Check check) {
        Builder b = new Builder();
        Derivatives lesser = Derivatives.of(check, b, b.lesser(b.variable(0), b.variable(1)));
        b = new Builder();
        Derivatives greater = Derivatives.of(check, b, b.greater(b.variable(0), b.variable(1)));
        long[][] pairs = {{LOW, HIGH}, {LOW, 1}, {-2, HIGH}, {LOW, LOW + 1}, {HIGH - 1, HIGH}, {-1, 0}, {0, 1}};
        for (long[] pair : pairs) {
            lesser.due("the lesser, a", pair[0], pair[1], pair[0], 1, 0);
            lesser.due("the lesser, b", pair[1], pair[0], pair[0], 0, 1);
            greater.due("the greater, b", pair[0], pair[1], pair[1], 0, 1);
            greater.due("the greater, a", pair[1], pair[0], pair[1], 1, 0);
        }
        for (long value : new long[] {LOW, -1, 0, 1, HIGH}) {
            lesser.due("the lesser of equal ones", value, value, value, 1, 0);
            greater.due("the greater of equal ones", value, value, value, 1, 0);
        }
    }

    private static void elements(Check check) {
        for (int place = 0; place < 8; place++) {
            Builder b = new Builder();
            int f = b.function();
            int y = b.variable(1);
            b.set(f, 5, b.constant(place % 4));
            b.setElement(f, place / 4, y);
            b.set(f, 0, b.element(place / 4, b.variable(0)));
            check.due("its element", b.run(f, place % 4, 9), 9);
            check.due("the one behind", b.run(f, (place + 1) % 4, 9), 0);
            check.due("the one before", b.run(f, (place + 3) % 4, 9), 0);
            b.set(f, 0, b.element(1 - place / 4, b.constant(place % 4)));
            check.due("the other array's", b.run(f, place % 4, 9), 0);
        }
        Builder b = new Builder();
        int x = b.variable(0);
        check.due("array 2", b.element(2, x), -1);
        check.due("array -1", b.element(-1, x), -1);
    }

    private static void callsOf(Check check) {
        Builder b = new Builder();
        int f = b.function();
        int empty = b.function();
        int x = b.variable(0);
        int y = b.variable(1);
        b.set(f, 0, b.call(empty, b.negative(y), x));
        new Derivatives(check, b, f).due("the call of a function without statements", 3, 5, -5, 0, -1);
    }

    private static void madeBefore(Check check) {
        for (int kind = 2; kind <= 11; kind++) {
            int k = kind;
            Refusals.refused(check, "kind " + k + " of itself", Ways::busy, c -> c.expression(k, 8, 0, 0));
            Refusals.refused(check, "kind " + k + " in a new object", Builder::function,
                    c -> c.expression(k, 0, 0, 0));
        }
        for (int kind : new int[] {2, 3, 4, 8, 9, 11}) {
            Refusals.refused(check, "kind " + kind + " with itself", Ways::busy, c -> c.expression(kind, 0, 8, 0));
        }
        Builder b = new Builder();
        b.constant(6);
        int last = b.negative(0);
        check.due("of the one just made", b.negative(last), 2);
        check.due("of the first one", b.negative(0), 3);
    }

    private static void places(Check check) {
        long[] values = {
            0, 1, 2, 3, 4, 5, 7, 8, -1, -2, -3, -4, -5, -8, LOW, LOW + 1, LOW + 3, HIGH, HIGH - 3,
            1L << 31, (1L << 31) + 1, (1L << 32) + 2, -(1L << 31) - 1, -(1L << 32) - 3, LOW_INT, HIGH_INT,
        };
        Builder read = new Builder();
        int f = read.function();
        for (int place = 0; place < 4; place++) {
            read.set(f, 5, read.constant(place));
            read.setElement(f, 1, read.constant(10 + place));
        }
        read.set(f, 0, read.element(1, read.variable(0)));
        Builder write = new Builder();
        int g = write.function();
        write.set(g, 5, write.variable(0));
        write.setElement(g, 0, write.constant(7));
        write.set(g, 0, write.element(0, write.variable(1)));
        for (long value : values) {
            long place = Math.floorMod(value, 4L);
            check.due("read at " + value, read.run(f, value, 0), 10 + place);
            for (long at = 0; at < 4; at++) {
                check.due("written at " + value + ", read at " + at, write.run(g, value, at), at == place ? 7 : 0);
            }
        }
    }
}
