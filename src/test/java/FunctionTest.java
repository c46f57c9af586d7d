/** Promise 3: function. */
public final class FunctionTest {
    public static void main(String[] args) {
        Check check = new Check("promise 3, function");
        DerivativeCompiler compiler = new DerivativeCompiler();
        for (int i = 0; i < 8; i++) {
            check.due("function()", compiler.function(), i);
            check.due("its cost", compiler.cost(i), 1);
            check.due("its order", compiler.order(i), 0);
            check.due("its result", compiler.run(i, 7, 9), 7);
        }
        check.due("statements", compiler.count(2), 0);
        check.due("a ninth", compiler.function(), -1);
        check.due("count(1)", compiler.count(1), 8);

        DerivativeCompiler mixed = new DerivativeCompiler();
        check.due("own", mixed.function(), 0);
        check.due("derived", mixed.derive(0, 0), 1);
        check.due("own again", mixed.function(), 2);
        for (int i = 3; i < 8; i++) {
            check.due("derived", mixed.derive(0, i % 2), i);
        }
        check.due("no more own ones", mixed.function(), -1);
        check.due("count(1)", mixed.count(1), 8);
        check.finish();
    }
}
