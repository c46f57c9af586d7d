/** Promise 1: a new object has nothing in it, and objects have nothing to do with one another. */
public final class NewObjectTest {
    public static void main(String[] args) {
        Check check = new Check("promise 1, a new object");
        DerivativeCompiler first = new DerivativeCompiler();
        isEmpty(check, first);
        first.function();
        first.expression(0, 1, 0, 0);
        first.statement(0, 4, 0, 2);
        isEmpty(check, new DerivativeCompiler());
        check.due("count(3)", first.count(3), 1);
        check.finish();
    }

    private static void isEmpty(Check check, DerivativeCompiler compiler) {
        for (int what = 0; what < 4; what++) {
            check.due("count(" + what + ")", compiler.count(what), 0);
        }
        check.due("order(0)", compiler.order(0), -1);
        check.due("cost(0)", compiler.cost(0), -1);
        check.due("calls(0, 0)", compiler.calls(0, 0), -1);
        check.due("run(0, 1, 1)", compiler.run(0, 1, 1), DerivativeCompiler.NONE);
        check.due("gradient(0, 0, 1, 1)", compiler.gradient(0, 0, 1, 1), DerivativeCompiler.NONE);
        check.due("expression(5, 0, 0, 0)", compiler.expression(5, 0, 0, 0), -1);
        check.due("statement(0, 5, 0, 0)", compiler.statement(0, 5, 0, 0), -1);
        check.due("derive(0, 0)", compiler.derive(0, 0), -1);
    }
}
