/** Promise 11: count. */
public final class CountTest {
    public static void main(String[] args) {
        Check check = new Check("promise 11, count");
        Builder b = new Builder();
        b.constant(1);
        b.variable(9);
        b.negative(0);
        counts(check, b, 2, 0, 0, 0);
        int f = b.compiler.function();
        int g = b.compiler.function();
        b.compiler.derive(f, 0);
        b.compiler.derive(f, 5);
        counts(check, b, 2, 3, 0, 0);
        b.set(f, 0, 0);
        b.set(f, 7, 0);
        b.doIf(f, 0);
        b.repeat(f, 2);
        b.repeat(g, 1);
        b.setElement(g, 0, 0);
        counts(check, b, 2, 3, 5, 3);
        b.end(f);
        counts(check, b, 2, 3, 6, 2);
        b.doElse(f);
        counts(check, b, 2, 3, 7, 2);
        b.doElse(f);
        counts(check, b, 2, 3, 7, 2);
        b.end(f);
        b.end(f);
        counts(check, b, 2, 3, 8, 1);
        b.end(g);
        counts(check, b, 2, 3, 9, 0);
        b.compiler.derive(2, 1);
        b.compiler.run(f, 1, 2);
        b.compiler.gradient(f, 0, 1, 2);
        counts(check, b, 2, 4, 9, 0);
        for (int wrong : new int[] {-1, 4, 5, Integer.MAX_VALUE, Integer.MIN_VALUE}) {
            check.due("count(" + wrong + ")", b.compiler.count(wrong), -1);
        }
        check.finish();
    }

    private static void counts(Check check, Builder b, int expressions, int functions, int statements, int open) {
        int[] dues = {expressions, functions, statements, open};
        for (int what = 0; what < 4; what++) {
            check.due("count(" + what + ")", b.compiler.count(what), dues[what]);
        }
    }
}
