import java.io.IOException;

/** What the terms say of functions and statements. */
public final class TermsOfProgramsTest {
    private static final long LOW = Long.MIN_VALUE;
    private static final long HIGH = Long.MAX_VALUE;

    public static void main(String[] args) throws IOException {
        Sentences terms = new Sentences("Terms");
        terms.test("FUNCTIONS 0 .. 7 are numbered as they are made, and OWN or DERIVED.",
                TermsOfProgramsTest::numbers);
        terms.test("An own one has up to 12 STATEMENTS.", TermsOfProgramsTest::twelve);
        terms.test("it has variables 0 .. 5, 0 and 1 being x and y, and two arrays of 4 elements;"
                + " everything else is 0.", TermsOfProgramsTest::startsWithZeros);
        terms.test("it has variables 0 .. 5, 0 and 1 being x and y, and two arrays of 4 elements;"
                + " everything else is 0.", TermsOfProgramsTest::eachRunHasItsOwn);
        terms.test("it has variables 0 .. 5, 0 and 1 being x and y, and two arrays of 4 elements;"
                + " everything else is 0.", TermsOfProgramsTest::eachCallHasItsOwn);
        terms.test("it has variables 0 .. 5, 0 and 1 being x and y, and two arrays of 4 elements;"
                + " everything else is 0.", TermsOfProgramsTest::oneBesideAnother);
        terms.test("Its RESULT is the variable 0 when its statements are over.", TermsOfProgramsTest::results);
        terms.test("0 the variable a becomes the expression b.", TermsOfProgramsTest::becomes);
        terms.test("1 the array a (0 .. 1), its place told by the variable 5, becomes the expression b there.",
                TermsOfProgramsTest::elementBecomes);
        terms.test("2 IF the expression b is above 0.", TermsOfProgramsTest::above);
        terms.test("4 REPEAT b (1 .. 5) times.", TermsOfProgramsTest::repeats);
        terms.test("An IF has statements up to its ELSE or END, and those from its ELSE to its END,"
                + " one of which are done", TermsOfProgramsTest::branches);
        terms.test("An IF has statements up to its ELSE or END, and those from its ELSE to its END,"
                + " one of which are done", TermsOfProgramsTest::emptyBranches);
        terms.test("a REPEAT up to its END", TermsOfProgramsTest::loopEnds);
        terms.test("At any time IFs and REPEATs may lack their ENDs: these are then behind the last statement.",
                TermsOfProgramsTest::lackingEnds);
        terms.test("At any time IFs and REPEATs may lack their ENDs: these are then behind the last statement.",
                TermsOfProgramsTest::nothingBehindThem);
        terms.finish();
    }

    private static void numbers(Check check) {
        DerivativeCompiler c = new DerivativeCompiler();
        check.due("an own one", c.function(), 0);
        check.due("a derived one", c.derive(0, 1), 1);
        check.due("a derived one of that", c.derive(1, 0), 2);
        for (int i = 3; i < 7; i++) {
            check.due("an own one", c.function(), i);
        }
        check.due("a derived one", c.derive(6, 0), 7);
        check.due("an own one more", c.function(), -1);
        check.due("a derived one more", c.derive(0, 0), -1);
        int[] orders = {0, 1, 2, 0, 0, 0, 0, 1};
        for (int i = 0; i < 8; i++) {
            check.due("order(" + i + ")", c.order(i), orders[i]);
        }
    }

    private static void twelve(Check check) {
        for (int last = 0; last <= 5; last++) {
            Builder b = new Builder();
            int f = b.function();
            int y = b.variable(1);
            b.variable(0);
            for (int i = 1; i <= 10; i++) {
                check.due("statement " + i, b.set(f, i % 6, y), i);
            }
            check.due("statement 11", b.doIf(f, y), 11);
            check.due("statement 12 of kind " + last, b.compiler.statement(f, last, 0, 1), 12);
            check.due("statement 13", b.repeat(f, 1), -1);
            check.due("count(2)", b.compiler.count(2), 12);
        }
        Builder b = new Builder();
        int f = b.function();
        int sum = b.sum(b.variable(0), b.variable(1));
        for (int i = 0; i < 8; i++) {
            b.set(f, 0, sum);
        }
        check.due("eight sums", b.run(f, 100, 1), 108);
        for (int i = 0; i < 3; i++) {
            b.repeat(f, 1);
        }
        check.due("the twelfth", b.set(f, 0, b.variable(2)), 12);
        check.due("is done", b.run(f, 100, 1), 0);
    }

    private static void startsWithZeros(Check check) {
        long[] values = {11, 13, 0, 0, 0, 0};
        for (int i = 0; i < 6; i++) {
            Builder b = new Builder();
            int variable = b.variable(i);
            Derivatives d = Derivatives.of(check, b, variable);
            d.due("variable " + i, 11, 13, values[i], i == 0 ? 1 : 0, i == 1 ? 1 : 0);
        }
        for (int array = 0; array < 2; array++) {
            Builder b = new Builder();
            Derivatives element = Derivatives.of(check, b, b.element(array, b.variable(0)));
            for (int place = 0; place < 4; place++) {
                element.due("an element of array " + array, place, 1, 0);
            }
        }
    }

    /** What one run leaves behind is not there in the next one, nor in a call, nor in its caller. */
    private static void eachRunHasItsOwn(Check check) {
        Builder b = new Builder();
        int f = b.function();
        int g = b.function();
        int x = b.variable(0);
        int third = b.variable(2);
        int element = b.element(1, x);
        b.set(g, 2, b.sum(third, x));
        b.setElement(g, 1, b.sum(element, x));
        b.set(g, 0, b.sum(third, element));
        check.due("g", b.run(g, 4, 0), 8);
        check.due("g once more", b.run(g, 4, 0), 8);
        check.due("g with another place", b.run(g, 5, 0), 5);
        int call = b.call(g, x, x);
        b.set(f, 3, call);
        b.set(f, 0, b.sum(third, element));
        check.due("its caller", b.run(f, 4, 0), 0);
        b.set(f, 0, b.variable(3));
        check.due("the call", b.run(f, 4, 0), 8);
    }

    /** The cells: variables 0 .. 5 and, as 6 .. 13, the elements; variable 5 holds the place while it is needed. */
    private static void give(Builder b, int function, int cell, int expression) {
        if (cell < 6) {
            b.set(function, cell, expression);
            return;
        }
        b.set(function, 5, b.constant(cell % 4));
        b.setElement(function, (cell - 6) / 4, expression);
        b.set(function, 5, b.variable(4));
    }

    /** The place of an element is (cell % 4), so each of the cells 6 .. 9 and 10 .. 13 has one of the four. */
    private static int read(Builder b, int cell) {
        return cell < 6 ? b.variable(cell) : b.element((cell - 6) / 4, b.constant(cell % 4));
    }

    /** A caller's cell stays as it was, and its callee's one begins with 0, also at the second call. */
    private static void eachCallHasItsOwn(Check check) {
        for (int cell = 2; cell < 14; cell++) {
            Builder b = new Builder();
            int f = b.function();
            int g = b.function();
            int x = b.variable(0);
            int own = read(b, cell);
            b.set(g, 0, b.difference(own, x));
            give(b, g, cell, x);
            give(b, f, cell, x);
            int call = b.call(g, b.variable(1), x);
            b.set(f, 0, call);
            check.due("a callee's cell " + cell, b.run(f, 100, 7), -7);
            check.due("the second call", b.set(f, 0, call) > 0 ? 1 : 0, 1);
            check.due("the second call's cell " + cell, b.run(f, 100, 7), -7);
            int h = b.function();
            give(b, h, cell, x);
            b.set(h, 1, call);
            check.due("the caller's cell, read behind the call", b.set(h, 0, own) > 0 ? 1 : 0, 1);
            check.due("the caller's cell " + cell, b.run(h, 100, 7), 100);
        }
    }

    private static void oneBesideAnother(Check check) {
        for (int given = 0; given < 14; given++) {
            for (int asked = 0; asked < 14; asked++) {
                Builder b = new Builder();
                int f = b.function();
                give(b, f, given, b.constant(55));
                b.set(f, 0, read(b, asked));
                long due = asked == given ? 55 : asked == 0 ? 100 : asked == 1 ? 7 : 0;
                check.due("cell " + asked + " when cell " + given + " was given", b.run(f, 100, 7), due);
            }
        }
    }

    private static void results(Check check) {
        Builder b = new Builder();
        int f = b.function();
        Derivatives d = new Derivatives(check, b, f);
        d.due("without statements", LOW, HIGH, LOW, 1);
        d.due("without statements", 0, 5, 0, 1);
        int y = b.variable(1);
        b.set(f, 1, b.product(y, y));
        b.set(f, 5, y);
        d.due("with variable 0 as it began", 3, 5, 3, 1);
        b.set(f, 0, y);
        d.due("with y squared at last", 3, 5, 25, 0, 10, 0, 0, 0, 2);
        b.set(f, 0, b.variable(4));
        d.due("with 0 at last", 3, 5, 0);
    }

    private static void becomes(Check check) {
        Builder b = new Builder();
        int f = b.function();
        int x = b.variable(0);
        int y = b.variable(1);
        int sum = b.sum(x, y);
        b.set(f, 0, sum);
        b.set(f, 1, sum);
        b.set(f, 0, b.difference(x, y));
        // x + y, then y is x + 2 y
        new Derivatives(check, b, f).due("one becomes after the other", 3, 5, -5, 0, -1);
    }

    private static void elementBecomes(Check check) {
        for (long place : new long[] {0, 1, 3, 4, -1, LOW, HIGH}) {
            Builder b = new Builder();
            int f = b.function();
            int y = b.variable(1);
            int x = b.variable(0);
            b.set(f, 5, x);
            b.setElement(f, 0, y);
            b.setElement(f, 0, b.sum(b.element(0, x), b.element(0, x)));
            b.set(f, 0, b.element(0, x));
            Derivatives d = new Derivatives(check, b, f);
            d.due("an element twice itself", place, 9, 18, 0, 2);
        }
        Builder b = new Builder();
        int f = b.function();
        int x = b.variable(0);
        b.setElement(f, 1, x);
        b.set(f, 5, x);
        b.set(f, 0, b.element(1, b.constant(0)));
        check.due("the place 0 while the variable 5 is 0", b.run(f, 3, 0), 3);
    }

    private static void above(Check check) {
        Builder b = new Builder();
        int f = b.function();
        int y = b.variable(1);
        b.doIf(f, b.variable(0));
        b.set(f, 0, y);
        b.doElse(f);
        b.set(f, 0, b.negative(y));
        Derivatives d = new Derivatives(check, b, f);
        for (long value : new long[] {1, 2, 1L << 32, HIGH}) {
            d.due("above 0", value, 9, 9, 0, 1);
        }
        for (long value : new long[] {0, -1, -(1L << 32), LOW}) {
            d.due("not above 0", value, 9, -9, 0, -1);
        }
        b = new Builder();
        f = b.function();
        b.doIf(f, b.difference(b.variable(0), b.variable(1)));
        b.set(f, 0, b.constant(7));
        check.due("a difference that wraps to below 0", b.run(f, HIGH, -1), HIGH);
        check.due("a difference that wraps to above 0", b.run(f, LOW, 1), 7);
    }

    private static void repeats(Check check) {
        for (int times = 1; times <= 5; times++) {
            Builder b = new Builder();
            int f = b.function();
            check.due("repeat " + times, b.repeat(f, times), 1);
            b.set(f, 0, b.sum(b.variable(0), b.variable(1)));
            b.end(f);
            new Derivatives(check, b, f).due("repeated", 100, 3, 100 + 3 * times, 1, times);
        }
        Builder b = new Builder();
        int f = b.function();
        check.due("repeat 0", b.repeat(f, 0), -1);
        check.due("repeat 6", b.repeat(f, 6), -1);
        b.repeat(f, 2);
        b.repeat(f, 3);
        b.set(f, 0, b.sum(b.variable(0), b.variable(1)));
        new Derivatives(check, b, f).due("one within another", 0, 1, 6, 1, 6);
        b = new Builder();
        f = b.function();
        b.repeat(f, 5);
        b.repeat(f, 5);
        b.repeat(f, 5);
        check.due("125 rounds of nothing", b.run(f, 8, 9), 8);
    }

    private static void branches(Check check) {
        Builder b = new Builder();
        int f = b.function();
        int x = b.variable(0);
        int y = b.variable(1);
        b.doIf(f, b.difference(x, y));
        b.doIf(f, y);
        b.set(f, 0, b.product(x, y));
        b.doElse(f);
        b.set(f, 0, b.sum(x, y));
        b.end(f);
        b.doElse(f);
        b.set(f, 0, b.negative(x));
        b.end(f);
        b.set(f, 0, b.sum(x, x));
        Derivatives d = new Derivatives(check, b, f);
        d.due("both", 5, 3, 30, 6, 10, 0, 2, 2, 0);
        d.due("the first alone", 5, 0, 10, 2, 2);
        d.due("the first alone", 5, -1, 8, 2, 2);
        d.due("none, equal", 3, 3, -6, -2);
        d.due("none", 2, 3, -4, -2);
        b = new Builder();
        f = b.function();
        y = b.variable(1);
        b.doIf(f, b.variable(0));
        b.set(f, 0, b.constant(0));
        b.doElse(f);
        b.set(f, 0, y);
        b.end(f);
        check.due("what makes the condition false does not lead to the else", b.run(f, 1, 5), 0);
    }

    private static void emptyBranches(Check check) {
        Builder b = new Builder();
        int f = b.function();
        int x = b.variable(0);
        int y = b.variable(1);
        b.doIf(f, y);
        b.end(f);
        b.doIf(f, y);
        b.doElse(f);
        b.end(f);
        b.doIf(f, y);
        b.doElse(f);
        b.set(f, 0, b.sum(x, x));
        b.end(f);
        b.doIf(f, y);
        b.set(f, 0, b.negative(x));
        check.due("an else as the twelfth statement", b.doElse(f), 12);
        check.due("the first branches", b.run(f, 3, 1), -3);
        check.due("the others", b.run(f, 3, 0), 6);
    }

    private static void loopEnds(Check check) {
        Builder b = new Builder();
        int f = b.function();
        int sum = b.sum(b.variable(0), b.variable(1));
        b.repeat(f, 5);
        b.end(f);
        check.due("nothing, five times", b.run(f, 10, 1), 10);
        b.repeat(f, 3);
        b.set(f, 0, sum);
        b.end(f);
        b.set(f, 0, sum);
        check.due("three times and once", b.run(f, 10, 1), 14);
        b.repeat(f, 1);
        b.set(f, 0, sum);
        b.end(f);
        check.due("and once more", b.run(f, 10, 1), 15);
    }

    private static void lackingEnds(Check check) {
        Builder b = new Builder();
        int f = b.function();
        int x = b.variable(0);
        int y = b.variable(1);
        int sum = b.sum(x, y);
        b.repeat(f, 2);
        b.doIf(f, y);
        b.repeat(f, 2);
        b.set(f, 0, sum);
        check.due("all of them lack", b.compiler.count(3), 3);
        Derivatives d = new Derivatives(check, b, f);
        d.due("lacking", 10, 1, 14, 1, 4);
        d.due("lacking", 10, -1, 10, 1);
        b.end(f);
        b.doElse(f);
        b.set(f, 0, b.negative(x));
        d.due("lacking behind an else", 10, 0, 10, 1);
        b.set(f, 0, b.constant(3));
        d.due("more behind an else", 10, 0, 3);
        d.due("more behind an else, passed by", 10, 1, 14, 1, 4);
    }

    private static void nothingBehindThem(Check check) {
        Builder b = new Builder();
        int f = b.function();
        int y = b.variable(1);
        b.doIf(f, y);
        check.due("an if at the end", b.run(f, 4, 1), 4);
        check.due("an if at the end, passed by", b.run(f, 4, 0), 4);
        b.doElse(f);
        check.due("an else at the end, passed by", b.run(f, 4, 1), 4);
        check.due("an else at the end", b.run(f, 4, 0), 4);
        b.repeat(f, 5);
        check.due("a repeat at the end", b.run(f, 4, 0), 4);
        check.due("a repeat at the end, passed by", b.run(f, 4, 1), 4);
        b = new Builder();
        f = b.function();
        y = b.variable(1);
        for (int i = 0; i < 11; i++) {
            b.repeat(f, 1);
        }
        check.due("the twelfth statement", b.set(f, 0, y), 12);
        check.due("eleven that lack", b.compiler.count(3), 11);
        check.due("it is done", b.run(f, 4, 9), 9);
        b = new Builder();
        f = b.function();
        y = b.variable(1);
        for (int i = 0; i < 11; i++) {
            b.doIf(f, y);
        }
        check.due("the twelfth statement", b.set(f, 0, y), 12);
        check.due("eleven ifs", b.run(f, 4, 9), 9);
        check.due("eleven ifs, passed by", b.run(f, 4, -9), 4);
    }
}
