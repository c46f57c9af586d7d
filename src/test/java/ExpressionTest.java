/** Promise 2: expression. */
public final class ExpressionTest {
    private static final int FAR = Integer.MAX_VALUE;
    private static final int LOW = Integer.MIN_VALUE;

    public static void main(String[] args) {
        Check check = new Check("promise 2, expression");
        numbers(check);
        wrongKinds(check);
        wrongParts(check);
        wrongCallees(check);
        unusedParts(check);
        full(check);
        check.finish();
    }

    private static void numbers(Check check) {
        DerivativeCompiler compiler = new DerivativeCompiler();
        compiler.function();
        compiler.expression(0, LOW, 0, 0);
        for (int kind = 1; kind <= 11; kind++) {
            check.due("kind " + kind, compiler.expression(kind, 0, 0, 0), kind);
        }
        check.due("the last variable", compiler.expression(1, 5, 0, 0), 12);
        check.due("the highest power", compiler.expression(6, 12, 3, 0), 13);
        check.due("the last array", compiler.expression(10, 13, 1, 0), 14);
    }

    private static void wrongKinds(Check check) {
        DerivativeCompiler compiler = new DerivativeCompiler();
        compiler.function();
        compiler.expression(0, 0, 0, 0);
        for (int kind : new int[] {-1, 12, 13, FAR, LOW}) {
            check.due("kind " + kind, compiler.expression(kind, 0, 0, 0), -1);
        }
        check.due("count(0)", compiler.count(0), 1);
    }

    private static void wrongParts(Check check) {
        DerivativeCompiler compiler = new DerivativeCompiler();
        compiler.function();
        compiler.expression(0, 0, 0, 0);
        compiler.expression(0, 1, 0, 0);
        for (int wrong : new int[] {-1, 2, 80, FAR, LOW}) {
            for (int kind = 2; kind <= 11; kind++) {
                check.due("kind " + kind + " a " + wrong, compiler.expression(kind, wrong, 0, 0), -1);
            }
            for (int kind : new int[] {2, 3, 4, 8, 9, 11}) {
                check.due("kind " + kind + " b " + wrong, compiler.expression(kind, 0, wrong, 0), -1);
            }
        }
        for (int wrong : new int[] {-1, 6, FAR, LOW}) {
            check.due("variable " + wrong, compiler.expression(1, wrong, 0, 0), -1);
        }
        for (int wrong : new int[] {-1, 4, FAR, LOW}) {
            check.due("power " + wrong, compiler.expression(6, 0, wrong, 0), -1);
        }
        for (int wrong : new int[] {-1, 2, FAR, LOW}) {
            check.due("array " + wrong, compiler.expression(10, 0, wrong, 0), -1);
        }
        check.due("count(0)", compiler.count(0), 2);
    }

    private static void wrongCallees(Check check) {
        DerivativeCompiler compiler = new DerivativeCompiler();
        compiler.expression(0, 0, 0, 0);
        check.due("no function yet", compiler.expression(11, 0, 0, 0), -1);
        compiler.function();
        compiler.derive(0, 0);
        compiler.derive(1, 0);
        compiler.function();
        check.due("a derived one", compiler.expression(11, 0, 0, 1), -1);
        check.due("one of order 2", compiler.expression(11, 0, 0, 2), -1);
        for (int wrong : new int[] {-1, 4, 8, FAR, LOW}) {
            check.due("callee " + wrong, compiler.expression(11, 0, 0, wrong), -1);
        }
        check.due("callee 0", compiler.expression(11, 0, 0, 0), 1);
        check.due("callee 3", compiler.expression(11, 1, 1, 3), 2);
    }

    private static void unusedParts(Check check) {
        DerivativeCompiler compiler = new DerivativeCompiler();
        check.due("a constant", compiler.expression(0, FAR, LOW, FAR), 0);
        check.due("a variable", compiler.expression(1, 3, LOW, FAR), 1);
        check.due("a sum", compiler.expression(2, 0, 1, LOW), 2);
        check.due("a negative", compiler.expression(5, 0, FAR, LOW), 3);
        check.due("a power", compiler.expression(6, 0, 1, LOW), 4);
        check.due("a size", compiler.expression(7, 0, LOW, LOW), 5);
        check.due("a greater", compiler.expression(9, 0, 1, LOW), 6);
        check.due("an element", compiler.expression(10, 0, 1, LOW), 7);
    }

    private static void full(Check check) {
        DerivativeCompiler compiler = new DerivativeCompiler();
        for (int i = 0; i < 80; i++) {
            check.due("expression " + i, compiler.expression(0, i, 0, 0), i);
        }
        check.due("expression 80", compiler.expression(0, 0, 0, 0), -1);
        check.due("expression 80, a sum", compiler.expression(2, 79, 79, 0), -1);
        check.due("count(0)", compiler.count(0), 80);
        compiler.function();
        compiler.statement(0, 0, 0, 79);
        check.due("the last one's value", compiler.run(0, 5, 5), 79);
    }
}
