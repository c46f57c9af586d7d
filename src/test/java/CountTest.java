import java.io.IOException;

/** Promise 11: count. */
public final class CountTest {
    public static void main(String[] args) throws IOException {
        Sentences promise = new Sentences("Promise 11: count");
        promise.test("Expressions made (0)", CountTest::expressions);
        promise.test("functions made (1)", CountTest::functions);
        promise.test("statements of all own functions (2)", CountTest::statements);
        promise.test("IFs and REPEATs without their END (3)", CountTest::open);
        promise.test("IFs and REPEATs without their END (3)", CountTest::allOpen);
        promise.test("Expressions made (0), functions made (1), statements of all own functions (2),"
                + " IFs and REPEATs without their END (3)", CountTest::allTogether);
        promise.test("else REFUSED.", CountTest::wrongOnes);
        promise.finish();
    }

    private static void expressions(Check check) {
        DerivativeCompiler c = new DerivativeCompiler();
        for (int i = 0; i < 80; i++) {
            check.due("count(0)", c.count(0), i);
            check.due("an expression", c.expression(0, i, 0, 0), i);
            check.due("a refused one", c.expression(5, i + 1, 0, 0), -1);
        }
        check.due("count(0) when full", c.count(0), 80);
        check.due("one more", c.expression(0, 0, 0, 0), -1);
        check.due("count(0) when full", c.count(0), 80);
    }

    private static void functions(Check check) {
        DerivativeCompiler c = new DerivativeCompiler();
        for (int i = 0; i < 8; i++) {
            check.due("count(1)", c.count(1), i);
            check.due("a function", i % 3 == 1 ? c.derive(0, 0) : c.function(), i);
            check.due("a refused one", c.derive(i + 1, 0), -1);
        }
        check.due("count(1) when full", c.count(1), 8);
        c.function();
        c.derive(0, 0);
        check.due("count(1) when full", c.count(1), 8);
    }

    private static void statements(Check check) {
        Builder b = new Builder();
        int x = b.variable(0);
        for (int f = 0; f < 8; f++) {
            b.function();
        }
        int due = 0;
        for (int i = 0; i < 12; i++) {
            for (int f = 0; f < 8; f++) {
                check.due("count(2)", b.compiler.count(2), due);
                b.set(f, i % 6, x);
                due++;
            }
        }
        check.due("count(2) when full", b.compiler.count(2), 96);
        check.due("one more", b.set(3, 0, x), -1);
        check.due("count(2) when full", b.compiler.count(2), 96);
        check.due("count(3)", b.compiler.count(3), 0);
        b = new Builder();
        b.variable(0);
        b.function();
        b.derive(0, 0);
        b.set(0, 0, 0);
        b.derive(0, 0);
        b.derive(1, 0);
        check.due("derived ones have none", b.compiler.count(2), 1);
        b.repeat(0, 1);
        b.end(0);
        check.due("an end is one, too", b.compiler.count(2), 3);
    }

    private static void open(Check check) {
        Builder b = new Builder();
        int x = b.variable(0);
        int f = b.function();
        int g = b.function();
        check.due("none", b.compiler.count(3), 0);
        b.doIf(f, x);
        check.due("an if", b.compiler.count(3), 1);
        b.derive(f, 0);
        check.due("a derived one has none", b.compiler.count(3), 1);
        b.doElse(f);
        check.due("an if with an else", b.compiler.count(3), 1);
        b.repeat(f, 1);
        check.due("a repeat more", b.compiler.count(3), 2);
        b.set(f, 0, x);
        b.setElement(f, 0, x);
        check.due("others do not count", b.compiler.count(3), 2);
        b.repeat(g, 5);
        check.due("another function's", b.compiler.count(3), 3);
        b.end(f);
        check.due("an end", b.compiler.count(3), 2);
        b.doElse(f);
        check.due("a refused else", b.compiler.count(3), 2);
        b.end(f);
        check.due("an end behind the else", b.compiler.count(3), 1);
        b.end(f);
        check.due("a refused end", b.compiler.count(3), 1);
        b.end(g);
        check.due("none", b.compiler.count(3), 0);
        b.repeat(g, 6);
        check.due("a refused repeat", b.compiler.count(3), 0);
        b.doIf(g, 7);
        check.due("a refused if", b.compiler.count(3), 0);
    }

    private static void allOpen(Check check) {
        DerivativeCompiler c = new DerivativeCompiler();
        for (int i = 0; i < 96; i++) {
            if (i % 12 == 0) {
                c.function();
            }
            check.due("a repeat", c.statement(i / 12, 4, 0, 1), i % 12 + 1);
            check.due("count(3)", c.count(3), i + 1);
        }
        check.due("an end without room", c.statement(0, 5, 0, 0), -1);
        check.due("count(3)", c.count(3), 96);
        check.due("count(2)", c.count(2), 96);
    }

    private static void allTogether(Check check) {
        Builder b = new Builder();
        b.constant(1);
        b.variable(9);
        b.negative(0);
        counts(check, b, 2, 0, 0, 0);
        int f = b.function();
        int g = b.function();
        b.derive(f, 0);
        b.derive(f, 5);
        counts(check, b, 2, 3, 0, 0);
        b.set(f, 0, 0);
        b.set(f, 7, 0);
        b.doIf(f, 0);
        b.repeat(f, 2);
        b.repeat(g, 1);
        b.setElement(g, 0, 0);
        counts(check, b, 2, 3, 5, 3);
        b.end(f);
        b.doElse(f);
        b.end(f);
        b.end(f);
        b.end(g);
        counts(check, b, 2, 3, 9, 0);
        b.derive(2, 1);
        b.run(f, 1, 2);
        b.compiler.gradient(f, 0, 1, 2);
        counts(check, b, 2, 4, 9, 0);
    }

    private static void counts(Check check, Builder b, int expressions, int functions, int statements, int open) {
        int[] dues = {expressions, functions, statements, open};
        for (int what = 0; what < 4; what++) {
            check.due("count(" + what + ")", b.compiler.count(what), dues[what]);
        }
    }

    private static void wrongOnes(Check check) {
        for (int what : new int[] {-1, Ways.LOW, 4, 5, 256, 1 << 16, Ways.HIGH}) {
            Refusals.refused(check, "count(" + what + ")", Ways::busy, c -> c.count(what));
            Refusals.refused(check, "count(" + what + ") in a new object", Ways::nothing, c -> c.count(what));
        }
    }
}
