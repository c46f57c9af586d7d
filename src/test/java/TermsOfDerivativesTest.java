import java.io.IOException;

/** What the terms say of derivatives, at the edges that they name. */
public final class TermsOfDerivativesTest {
    private static final long LOW = Long.MIN_VALUE;
    private static final long HIGH = Long.MAX_VALUE;

    public static void main(String[] args) throws IOException {
        Sentences terms = new Sentences("Terms");
        terms.test("of a constant 0", TermsOfDerivativesTest::constants);
        terms.test("of the variable asked for, at the beginning, 1, of the other one, of all other variables"
                + " and of elements 0, and then of each what it was given last", TermsOfDerivativesTest::beginnings);
        terms.test("of the variable asked for, at the beginning, 1, of the other one, of all other variables"
                + " and of elements 0, and then of each what it was given last", TermsOfDerivativesTest::givenLast);
        terms.test("Sum, difference, negative: likewise of the derivatives.", TermsOfDerivativesTest::sums);
        terms.test("Product: a's times b plus a times b's.", TermsOfDerivativesTest::products);
        terms.test("Power b: 0 for power 0, else b times a to the power b - 1 times a's.",
                TermsOfDerivativesTest::powers);
        terms.test("Size: a's, negative if a is below 0, 0 if a is 0.", TermsOfDerivativesTest::sizes);
        terms.test("Lesser and greater: a's or b's, as they are chosen; a's if they are equal.",
                TermsOfDerivativesTest::choices);
        terms.test("Element: its own derivative; a place has none.", TermsOfDerivativesTest::elements);
        terms.test("Call: with the derivatives of both arguments, that of the function's result with respect to x"
                + " times the first, plus that to y times the second.", TermsOfDerivativesTest::callsOf);
        terms.test("IF and REPEAT go by values alone.", TermsOfDerivativesTest::byValuesAlone);
        terms.test("run with x and y it gives that derivative of that function's result.",
                TermsOfDerivativesTest::mixedOnes);
        terms.test("It has an ORDER, one more than that of the function that it is of, own ones 0",
                TermsOfDerivativesTest::orders);
        terms.test("it always goes by the statements of own functions as they are at the time.",
                TermsOfDerivativesTest::asTheyAre);
        terms.finish();
    }

    private static void constants(Check check) {
        for (int value : new int[] {Integer.MIN_VALUE, -1, 0, 1, Integer.MAX_VALUE}) {
            Builder b = new Builder();
            Derivatives.of(check, b, b.constant(value)).due("a constant", LOW, HIGH, value);
        }
    }

    private static void beginnings(Check check) {
        for (int i = 0; i < 6; i++) {
            Builder b = new Builder();
            Derivatives d = Derivatives.of(check, b, b.variable(i));
            d.due("variable " + i, 0, 0, 0, i == 0 ? 1 : 0, i == 1 ? 1 : 0);
        }
        for (int place = 0; place < 8; place++) {
            Builder b = new Builder();
            int element = b.element(place / 4, b.constant(place % 4));
            Derivatives.of(check, b, element).due("an element", 3, 5, 0);
        }
        Builder b = new Builder();
        new Derivatives(check, b, b.function()).due("without statements", 3, 5, 3, 1);
    }

    private static void givenLast(Check check) {
        Builder b = new Builder();
        int f = b.function();
        int x = b.variable(0);
        int y = b.variable(1);
        b.set(f, 2, b.product(x, y));
        b.set(f, 0, y);
        b.set(f, 1, b.variable(2));
        b.set(f, 0, b.product(x, y));
        // x has become y, and y has become x y: x y^2
        new Derivatives(check, b, f).due("what was given last", 3, 5, 75, 25, 30, 0, 10, 10, 6);
        b = new Builder();
        f = b.function();
        x = b.variable(0);
        b.set(f, 0, b.constant(4));
        b.set(f, 0, b.product(x, x));
        new Derivatives(check, b, f).due("a constant in x's stead", 3, 5, 16);
    }

    private static void sums(Check check) {
        Builder b = new Builder();
        int x = b.variable(0);
        int y = b.variable(1);
        int product = b.product(x, y);
        int square = b.power(y, 2);
        int left = b.sum(b.sum(product, product), square);
        // (2 x y + y^2) - (x y - y^2) = x y + 2 y^2
        Derivatives d = Derivatives.of(check, b, b.difference(left, b.difference(product, square)));
        d.due("sums", 3, 5, 65, 5, 23, 0, 1, 1, 4);
        d.due("sums", 0, 0, 0, 0, 0, 0, 1, 1, 4);
        b = new Builder();
        int negative = b.negative(b.power(b.variable(0), 3));
        Derivatives.of(check, b, negative).due("a negative", -2, 0, 8, -12, 0, 12);
    }

    private static void products(Check check) {
        Builder b = new Builder();
        int x = b.variable(0);
        int y = b.variable(1);
        int first = b.product(b.sum(x, b.constant(-3)), b.product(x, y));
        // (x - 3) x y + y
        Derivatives d = Derivatives.of(check, b, b.difference(first, b.negative(y)));
        d.due("a polynomial", 5, 7, 77, 49, 11, 14, 7, 7);
        d.due("a polynomial", -2, -1, -11, 7, 11, -2, -7, -7);
        d.due("a polynomial", 0, 0, 0, 0, 1, 0, -3, -3);
        d.due("a polynomial", 3, 0, 0, 0, 1, 0, 3, 3);
    }

    private static void powers(Check check) {
        long[][] ofZero = {{1, 0, 0}, {0, 1, 0}, {0, 0, 2}, {0, 0, 0}};
        long[][] ofMinusFive = {{1, 0, 0}, {-5, 1, 0}, {25, -10, 2}, {-125, 75, -30}};
        for (int power = 0; power <= 3; power++) {
            Builder b = new Builder();
            Derivatives d = Derivatives.of(check, b, b.power(b.variable(1), power));
            long[] due = ofZero[power];
            d.due("0 to the power " + power, 4, 0, due[0], 0, due[1], 0, 0, 0, due[2]);
            due = ofMinusFive[power];
            d.due("-5 to the power " + power, 4, -5, due[0], 0, due[1], 0, 0, 0, due[2]);
        }
        Builder b = new Builder();
        int product = b.product(b.variable(0), b.variable(1));
        // (x y)^3
        Derivatives d = Derivatives.of(check, b, b.power(product, 3));
        d.due("a product's power", 2, 3, 216, 324, 216, 324, 324, 324, 144);
        d.due("a product's power", 0, 3, 0);
        b = new Builder();
        product = b.product(b.variable(0), b.variable(1));
        Derivatives.of(check, b, b.power(product, 0)).due("a product's power 0", 2, 3, 1);
    }

    private static void sizes(Check check) {
        Builder b = new Builder();
        Derivatives d = Derivatives.of(check, b, b.size(b.product(b.variable(0), b.variable(1))));
        d.due("a size", 2, 3, 6, 3, 2, 0, 1, 1, 0);
        d.due("a size", -2, 3, 6, -3, 2, 0, -1, -1, 0);
        d.due("a size", 1, -1, 1, 1, -1, 0, -1, -1, 0);
        d.due("a size of 0", 0, 3, 0);
        d.due("a size of 0", 3, 0, 0);
        d.due("a size of the lowest", LOW, 1, LOW, -1, LOW, 0, -1, -1, 0);
        d.due("a size of what wraps to 0", LOW, 2, 0);
        b = new Builder();
        int square = b.power(b.variable(0), 2);
        Derivatives.of(check, b, b.size(square)).due("a size of 0 that bends", 0, 0, 0);
    }

    private static void choices(Check check) {
        Builder b = new Builder();
        int x = b.variable(0);
        int y = b.variable(1);
        Derivatives lesser = Derivatives.of(check, b, b.lesser(b.power(x, 2), b.product(x, y)));
        lesser.due("a lesser, a", 2, 3, 4, 4, 0, 2);
        lesser.due("a lesser, b", 3, 2, 6, 2, 3, 0, 1, 1);
        lesser.due("a lesser of equal ones", 3, 3, 9, 6, 0, 2);
        lesser.due("a lesser of zeros", 0, 5, 0, 0, 0, 2);
        b = new Builder();
        x = b.variable(0);
        y = b.variable(1);
        Derivatives greater = Derivatives.of(check, b, b.greater(b.power(x, 2), b.product(x, y)));
        greater.due("a greater, a", 3, 2, 9, 6, 0, 2);
        greater.due("a greater, b", 2, 3, 6, 3, 2, 0, 1, 1);
        greater.due("a greater of equal ones", 3, 3, 9, 6, 0, 2);
        greater.due("a greater of zeros", 0, 5, 0, 0, 0, 2);
    }

    private static void elements(Check check) {
        for (int array = 0; array < 2; array++) {
            Builder b = new Builder();
            int f = b.function();
            int x = b.variable(0);
            int y = b.variable(1);
            b.set(f, 5, b.product(x, x));
            b.setElement(f, array, b.product(x, y));
            b.set(f, 0, b.element(array, b.product(x, x)));
            Derivatives d = new Derivatives(check, b, f);
            for (long place : new long[] {0, 1, 2, 3, -1, -2, 4, 5}) {
                d.due("an element of array " + array, place, 7, place * 7, 7, place, 0, 1, 1);
            }
            d.due("an element of array " + array, LOW, 7, LOW, 7, LOW, 0, 1, 1);
            d.due("an element of array " + array, HIGH, 2, -2, 2, HIGH, 0, 1, 1);
        }
        Builder b = new Builder();
        int f = b.function();
        int x = b.variable(0);
        b.setElement(f, 0, b.product(x, x));
        b.setElement(f, 0, b.variable(1));
        b.set(f, 0, b.element(0, b.variable(2)));
        new Derivatives(check, b, f).due("an element given twice", 3, 5, 5, 0, 1);
    }

    private static void callsOf(Check check) {
        Builder b = new Builder();
        int f = b.function();
        int g = b.function();
        int x = b.variable(0);
        int y = b.variable(1);
        int product = b.product(x, y);
        b.set(g, 0, b.product(product, y));
        // g = x y^2, f = g(x y, x + y) = x y (x + y)^2
        b.set(f, 0, b.call(g, product, b.sum(x, y)));
        Derivatives d = new Derivatives(check, b, f);
        d.due("a call", 2, 3, 150, 135, 110, 72, 87, 87, 52);
        d.due("a call", 0, 0, 0);
        d.due("a call", 0, 3, 0, 27, 0, 36, 27, 27, 0);
        b = new Builder();
        f = b.function();
        int empty = b.function();
        x = b.variable(0);
        y = b.variable(1);
        b.set(f, 0, b.call(empty, b.product(x, y), b.power(x, 3)));
        new Derivatives(check, b, f).due("a call of nothing", 3, 5, 15, 5, 3, 0, 1, 1);
        b = new Builder();
        f = b.function();
        int size = b.function();
        x = b.variable(0);
        b.set(size, 0, b.size(x));
        b.set(f, 0, b.call(size, b.power(x, 2), b.variable(1)));
        new Derivatives(check, b, f).due("a call that is 0 there", 0, 5, 0);
    }

    private static void byValuesAlone(Check check) {
        Builder b = new Builder();
        int f = b.function();
        int x = b.variable(0);
        int y = b.variable(1);
        b.repeat(f, 3);
        b.doIf(f, b.difference(y, x));
        b.set(f, 0, b.product(x, y));
        b.doElse(f);
        b.set(f, 1, b.sum(y, y));
        Derivatives d = new Derivatives(check, b, f);
        // with 2 and 3: 6, then y = 6 (6 - 6 is not above 0), y = 12, and x y at the end
        d.due("a run that turns", 2, 3, 6, 3, 2, 0, 1, 1);
        d.due("a run that turns", 2, 7, 14, 7, 2, 0, 1, 1);
        // with -1 and 2: -2, -4, -8, so x y^3
        d.due("a run that stays", -1, 2, -8, 8, -12, 0, 12, 12, -12);
        d.due("a run at an edge", 0, 0, 0, 1, 0);
        // 4 - 4 is not above 0, so y = 8, and then x y = 32, and y = 16
        d.due("a run at an edge", 4, 4, 32, 8, 8, 0, 2, 2);
    }

    private static void mixedOnes(Check check) {
        Builder b = new Builder();
        int x = b.variable(0);
        int y = b.variable(1);
        // x^3 y^2
        Derivatives d = Derivatives.of(check, b, b.product(b.power(x, 3), b.power(y, 2)));
        d.due("mixed", 2, 3, 72, 108, 48, 108, 72, 72, 16);
        d.due("mixed", 0, 0, 0);
        d.due("mixed", -1, 1, -1, 3, -2, -6, 6, 6, -2);
    }

    private static void orders(Check check) {
        DerivativeCompiler c = new DerivativeCompiler();
        c.function();
        check.due("an own one", c.order(0), 0);
        c.derive(0, 1);
        check.due("of an own one", c.order(1), 1);
        c.derive(1, 1);
        check.due("of a derived one", c.order(2), 2);
        check.due("a third time", c.derive(2, 0), -1);
        check.due("the own one as before", c.order(0), 0);
        c.function();
        c.derive(3, 0);
        check.due("of another own one", c.order(4), 1);
    }

    private static void asTheyAre(Check check) {
        Builder b = new Builder();
        int f = b.function();
        int g = b.function();
        Derivatives d = new Derivatives(check, b, f);
        int x = b.variable(0);
        int y = b.variable(1);
        d.due("x", 5, 2, 5, 1);
        b.set(f, 0, b.power(x, 2));
        d.due("x^2", 5, 2, 25, 10, 0, 2);
        b.set(f, 0, b.call(g, x, x));
        d.due("g(x^2)", 5, 2, 25, 10, 0, 2);
        b.set(g, 0, b.product(x, y));
        d.due("(x^2)^2", 5, 2, 625, 500, 0, 300);
        b.repeat(g, 2);
        d.due("with a repeat of nothing", 5, 2, 625, 500, 0, 300);
        check.due("a refused statement", b.set(g, 9, x), -1);
        d.due("as before", 5, 2, 625, 500, 0, 300);
        b.set(g, 0, x);
        b.end(g);
        b.doIf(g, b.difference(x, y));
        b.set(g, 0, y);
        d.due("with a branch", 5, 2, 25, 10, 0, 2);
    }
}
