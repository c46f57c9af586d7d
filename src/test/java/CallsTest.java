/** Promise 10: calls. */
public final class CallsTest {
    public static void main(String[] args) {
        Check check = new Check("promise 10, calls");
        Builder b = new Builder();
        int x = b.variable(0);
        int f = b.compiler.function();
        int g = b.compiler.function();
        int h = b.compiler.function();
        int k = b.compiler.function();
        int byX = b.compiler.derive(f, 0);
        int byXY = b.compiler.derive(byX, 1);
        int callH = b.call(h, x, x);
        check.due("an expression alone", b.compiler.calls(g, h), 0);
        b.set(f, 0, b.sum(x, b.negative(b.call(g, x, x))));
        check.due("f calls g", b.compiler.calls(f, g), 1);
        check.due("f calls h, not yet", b.compiler.calls(f, h), 0);
        b.doIf(g, b.power(callH, 0));
        check.due("g calls h", b.compiler.calls(g, h), 1);
        check.due("f calls h through g", b.compiler.calls(f, h), 1);
        check.due("h calls g", b.compiler.calls(h, g), 0);
        check.due("g calls f", b.compiler.calls(g, f), 0);
        b.setElement(h, 0, b.element(0, b.call(k, x, x)));
        int[][] dues = {
            {0, 1, 1, 1, 0, 0}, {0, 0, 1, 1, 0, 0}, {0, 0, 0, 1, 0, 0},
            {0, 0, 0, 0, 0, 0}, {0, 1, 1, 1, 0, 0}, {0, 1, 1, 1, 0, 0},
        };
        for (int i = 0; i <= byXY; i++) {
            for (int j = 0; j <= byXY; j++) {
                check.due("calls(" + i + ", " + j + ")", b.compiler.calls(i, j), dues[i][j]);
            }
        }
        for (int wrong : new int[] {-1, 6, 8, Integer.MAX_VALUE, Integer.MIN_VALUE}) {
            check.due("calls(0, " + wrong + ")", b.compiler.calls(0, wrong), -1);
            check.due("calls(" + wrong + ", 0)", b.compiler.calls(wrong, 0), -1);
        }
        check.finish();
    }
}
