import java.io.IOException;

/** Promise 2: expression. */
public final class ExpressionTest {
    private static final int LOW = Ways.LOW;
    private static final int HIGH = Ways.HIGH;
    private static final int[] TWO_PARTS = {2, 3, 4, 8, 9, 11};

    public static void main(String[] args) throws IOException {
        Sentences promise = new Sentences("Promise 2: expression");
        promise.test("Makes an expression; answers its number.", ExpressionTest::numbers);
        promise.test("kind not 0 .. 11", ExpressionTest::wrongKinds);
        promise.test("a no variable (1)", ExpressionTest::noVariable);
        promise.test("no expression made (2 .. 11)", ExpressionTest::noExpressionA);
        promise.test("b no expression made (2 .. 4, 8, 9, 11)", ExpressionTest::noExpressionB);
        promise.test("no power (6)", ExpressionTest::noPower);
        promise.test("no array (10)", ExpressionTest::noArray);
        promise.test("c no own function made (11)", ExpressionTest::noOwnFunction);
        promise.test("or 80 were made: REFUSED.", ExpressionTest::eighty);
        promise.test("What a kind has no use for may be anything.", ExpressionTest::noUse);
        promise.finish();
    }

    private static void numbers(Check check) {
        DerivativeCompiler compiler = new DerivativeCompiler();
        compiler.function();
        compiler.expression(0, LOW, 0, 0);
        for (int kind = 1; kind <= 11; kind++) {
            check.due("kind " + kind, compiler.expression(kind, 0, 0, 0), kind);
        }
        check.due("the last variable", compiler.expression(1, 5, 0, 0), 12);
        check.due("the highest power", compiler.expression(6, 12, 3, 0), 13);
        check.due("the last array", compiler.expression(10, 13, 1, 0), 14);
        check.due("a refused one", compiler.expression(10, 13, 2, 0), -1);
        check.due("the next one", compiler.expression(0, 0, 0, 0), 15);
        check.due("count(0)", compiler.count(0), 16);
    }

    private static void wrongKinds(Check check) {
        for (int kind : new int[] {-1, LOW, 12, 13, 256, 1 << 16, HIGH}) {
            Refusals.refused(check, "kind " + kind, Ways::busy, c -> c.expression(kind, 0, 0, 0));
            Refusals.refused(check, "kind " + kind + " in a new object", Ways::nothing,
                    c -> c.expression(kind, 0, 0, 0));
        }
        DerivativeCompiler c = new DerivativeCompiler();
        c.function();
        check.due("the lowest kind", c.expression(0, 0, 0, 0), 0);
        check.due("the highest kind", c.expression(11, 0, 0, 0), 1);
    }

    private static void noVariable(Check check) {
        for (int a : new int[] {-1, LOW, 6, 7, 256, 1 << 16, HIGH}) {
            Refusals.refused(check, "variable " + a, Ways::busy, c -> c.expression(1, a, 0, 0));
        }
        DerivativeCompiler c = new DerivativeCompiler();
        for (int a = 0; a <= 5; a++) {
            check.due("variable " + a, c.expression(1, a, 0, 0), a);
        }
    }

    private static void noExpressionA(Check check) {
        for (int kind = 2; kind <= 11; kind++) {
            int k = kind;
            for (int a : Ways.NO_EXPRESSIONS) {
                Refusals.refused(check, "kind " + k + ", a " + a, Ways::busy, c -> c.expression(k, a, 0, 0));
            }
            Builder b = new Builder();
            Ways.busy(b);
            check.due("kind " + k + ", the first a", b.compiler.expression(k, 0, 0, 0), Ways.EXPRESSIONS);
            int last = Ways.EXPRESSIONS;
            check.due("kind " + k + ", the last a", b.compiler.expression(k, last, 0, 0), last + 1);
        }
    }

    private static void noExpressionB(Check check) {
        for (int kind : TWO_PARTS) {
            for (int wrong : Ways.NO_EXPRESSIONS) {
                Refusals.refused(check, "kind " + kind + ", b " + wrong, Ways::busy,
                        c -> c.expression(kind, 0, wrong, 0));
            }
            Builder b = new Builder();
            Ways.busy(b);
            check.due("kind " + kind + ", the first b", b.compiler.expression(kind, 1, 0, 0), Ways.EXPRESSIONS);
            int last = Ways.EXPRESSIONS;
            check.due("kind " + kind + ", the last b", b.compiler.expression(kind, 1, last, 0), last + 1);
        }
    }

    private static void noPower(Check check) {
        for (int power : new int[] {-1, LOW, 4, 5, 256, 1 << 16, HIGH}) {
            Refusals.refused(check, "power " + power, Ways::busy, c -> c.expression(6, 0, power, 0));
        }
        Builder b = new Builder();
        int x = b.variable(0);
        for (int power = 0; power <= 3; power++) {
            check.due("power " + power, b.power(x, power), power + 1);
        }
    }

    private static void noArray(Check check) {
        for (int array : new int[] {-1, LOW, 2, 3, 256, 1 << 16, HIGH}) {
            Refusals.refused(check, "array " + array, Ways::busy, c -> c.expression(10, 0, array, 0));
        }
        Builder b = new Builder();
        int x = b.variable(0);
        check.due("array 0", b.element(0, x), 1);
        check.due("array 1", b.element(1, x), 2);
    }

    private static void noOwnFunction(Check check) {
        for (int function : Ways.NO_FUNCTIONS) {
            Refusals.refused(check, "no function " + function, Ways::busy, c -> c.expression(11, 0, 0, function));
        }
        for (int function : Ways.DERIVED) {
            Refusals.refused(check, "derived " + function, Ways::busy, c -> c.expression(11, 0, 0, function));
        }
        Refusals.refused(check, "no function yet", b -> b.constant(0), c -> c.expression(11, 0, 0, 0));
        Builder b = new Builder();
        Ways.busy(b);
        int due = Ways.EXPRESSIONS;
        for (int function : Ways.OWN) {
            check.due("own " + function, b.call(function, 0, 0), due);
            due++;
        }
        check.due("a function more", b.function(), Ways.FUNCTIONS);
        check.due("that one", b.call(Ways.FUNCTIONS, 0, 0), due);
        Builder full = new Builder();
        Ways.fullOfOwnFunctions(full);
        check.due("the last function", full.call(7, 0, 0), 2);
    }

    private static void eighty(Check check) {
        for (int kind = 0; kind <= 11; kind++) {
            int k = kind;
            Refusals.refused(check, "kind " + k, Ways::fullOfExpressions, c -> c.expression(k, 0, 0, 0));
            Refusals.refused(check, "kind " + k + " of the last one", Ways::fullOfExpressions,
                    c -> c.expression(k, 79, 79, 0));
        }
        DerivativeCompiler c = new DerivativeCompiler();
        for (int i = 0; i < 79; i++) {
            c.expression(0, i, 0, 0);
        }
        check.due("a refused one when 79 were made", c.expression(2, 79, 0, 0), -1);
        check.due("the 80th", c.expression(2, 78, 77, 0), 79);
        check.due("the 81st", c.expression(0, 0, 0, 0), -1);
        check.due("count(0)", c.count(0), 80);
        c.function();
        check.due("the 80th in use", c.statement(0, 0, 0, 79), 1);
        check.due("its value", c.run(0, 5, 5), 78 + 77);
    }

    private static void noUse(Check check) {
        int[] results = {1, 0, 1, -13, -42, 6, 36, 6, -6, 7, 0, -6};
        int[] costs = {1, 1, 3, 3, 3, 2, 3, 3, 5, 5, 2, 4};
        for (int any : new int[] {LOW, -1, 0, 1, 80, HIGH}) {
            for (int kind = 0; kind <= 11; kind++) {
                DerivativeCompiler c = new DerivativeCompiler();
                c.expression(0, -6, any, any);
                c.expression(1, 0, any, any);
                c.function();
                int own = c.function();
                int a = kind == 0 ? 1 : kind == 1 ? 5 : 0;
                int b = kind == 6 ? 2 : kind == 10 || isOneOf(kind, TWO_PARTS) ? 1 : any;
                check.due("kind " + kind + " with " + any, c.expression(kind, a, b, kind == 11 ? 0 : any), 2);
                c.statement(own, 0, 0, 2);
                check.due("its value", c.run(own, 7, 9), results[kind]);
                check.due("its cost", c.cost(own), 2 + costs[kind]);
                check.due("calls", c.calls(own, 0), kind == 11 ? 1 : 0);
            }
        }
    }

    private static boolean isOneOf(int kind, int[] kinds) {
        for (int one : kinds) {
            if (one == kind) {
                return true;
            }
        }
        return false;
    }
}
