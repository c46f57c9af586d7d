import java.io.IOException;

/** Promise 1: a new object has nothing in it, and objects have nothing to do with one another. */
public final class NewObjectTest {
    private static final long NONE = -1000000000000000000L;

    public static void main(String[] args) throws IOException {
        Sentences promise = new Sentences("Promise 1: A new object");
        promise.test("makes an object in the state that the terms give.", NewObjectTest::isEmpty);
        promise.test("makes an object in the state that the terms give.", NewObjectTest::numbersFromZero);
        promise.test("makes an object in the state that the terms give.", NewObjectTest::eachHasItsOwn);
        promise.test("makes an object in the state that the terms give.", NewObjectTest::afterFullOnes);
        promise.finish();
    }

    private static void isEmpty(Check check) {
        isEmpty(check, new DerivativeCompiler());
    }

    private static void isEmpty(Check check, DerivativeCompiler compiler) {
        for (int what = 0; what < 4; what++) {
            check.due("count(" + what + ")", compiler.count(what), 0);
        }
        for (int f = 0; f < 8; f++) {
            check.due("order(" + f + ")", compiler.order(f), -1);
            check.due("cost(" + f + ")", compiler.cost(f), -1);
            check.due("calls(" + f + ", 0)", compiler.calls(f, 0), -1);
            check.due("run(" + f + ", 1, 1)", compiler.run(f, 1, 1), NONE);
            check.due("gradient(" + f + ", 0, 1, 1)", compiler.gradient(f, 0, 1, 1), NONE);
            check.due("derive(" + f + ", 0)", compiler.derive(f, 0), -1);
            for (int kind = 0; kind <= 5; kind++) {
                check.due("statement(" + f + ", " + kind + ", 0, 1)", compiler.statement(f, kind, 0, 1), -1);
            }
        }
        for (int kind = 2; kind <= 11; kind++) {
            check.due("expression(" + kind + ", 0, 0, 0)", compiler.expression(kind, 0, 0, 0), -1);
        }
    }

    private static void numbersFromZero(Check check) {
        check.due("its first function", new DerivativeCompiler().function(), 0);
        check.due("its first constant", new DerivativeCompiler().expression(0, 9, 9, 9), 0);
        check.due("its first variable", new DerivativeCompiler().expression(1, 5, 9, 9), 0);
    }

    private static void eachHasItsOwn(Check check) {
        DerivativeCompiler first = new DerivativeCompiler();
        DerivativeCompiler second = new DerivativeCompiler();
        first.function();
        first.expression(1, 1, 0, 0);
        isEmpty(check, second);
        second.function();
        second.expression(0, 8, 0, 0);
        first.statement(0, 0, 0, 0);
        check.due("the first one's result", first.run(0, 3, 5), 5);
        check.due("the second one's result", second.run(0, 3, 5), 3);
        check.due("the second one's cost", second.cost(0), 1);
        second.statement(0, 4, 0, 2);
        second.statement(0, 0, 0, 0);
        check.due("the first one's result", first.run(0, 3, 5), 5);
        check.due("the second one's result", second.run(0, 3, 5), 8);
        check.due("the first one's open statements", first.count(3), 0);
        check.due("the second one's open statements", second.count(3), 1);
    }

    private static void afterFullOnes(Check check) {
        for (int i = 0; i < 3; i++) {
            Ways.fullOfAll(new Builder());
            isEmpty(check, new DerivativeCompiler());
        }
    }
}
