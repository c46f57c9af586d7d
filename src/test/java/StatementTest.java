/** Promise 4: statement. */
public final class StatementTest {
    private static final int[] NO_EXPRESSIONS = {-1, 2, 80, Integer.MAX_VALUE, Integer.MIN_VALUE};

    public static void main(String[] args) {
        Check check = new Check("promise 4, statement");
        wrongFunctions(check);
        wrongParts(check);
        unusedParts(check);
        elses(check);
        ends(check);
        full(check);
        circles(check);
        dearOnes(check);
        dearCallers(check);
        endlessCosts(check);
        check.finish();
    }

    private static void wrongFunctions(Check check) {
        Builder b = new Builder();
        int one = b.constant(1);
        int f = b.compiler.function();
        int derived = b.compiler.derive(f, 0);
        for (int wrong : new int[] {derived, -1, 2, 8, Integer.MAX_VALUE, Integer.MIN_VALUE}) {
            for (int kind = 0; kind <= 5; kind++) {
                check.due("function " + wrong + " kind " + kind, b.compiler.statement(wrong, kind, 0, one), -1);
            }
        }
        check.due("count(2)", b.compiler.count(2), 0);
        check.due("count(3)", b.compiler.count(3), 0);
    }

    private static void wrongParts(Check check) {
        Builder b = new Builder();
        int f = b.compiler.function();
        b.constant(1);
        b.constant(2);
        for (int kind : new int[] {-1, 6, 7, Integer.MAX_VALUE, Integer.MIN_VALUE}) {
            check.due("kind " + kind, b.compiler.statement(f, kind, 0, 1), -1);
        }
        for (int wrong : NO_EXPRESSIONS) {
            check.due("variable becomes " + wrong, b.set(f, 0, wrong), -1);
            check.due("element becomes " + wrong, b.setElement(f, 0, wrong), -1);
            check.due("if " + wrong, b.doIf(f, wrong), -1);
        }
        for (int wrong : new int[] {-1, 6, Integer.MAX_VALUE, Integer.MIN_VALUE}) {
            check.due("variable " + wrong, b.set(f, wrong, 0), -1);
            check.due("repeat " + wrong, b.repeat(f, wrong), -1);
        }
        check.due("repeat 0", b.repeat(f, 0), -1);
        for (int wrong : new int[] {-1, 2, Integer.MAX_VALUE, Integer.MIN_VALUE}) {
            check.due("array " + wrong, b.setElement(f, wrong, 0), -1);
        }
        check.due("count(2)", b.compiler.count(2), 0);
        check.due("cost", b.compiler.cost(f), 1);
        check.due("the last variable", b.set(f, 5, 1), 1);
        check.due("the last array", b.setElement(f, 1, 1), 2);
        check.due("repeat 1", b.repeat(f, 1), 3);
        check.due("repeat 5", b.repeat(f, 5), 4);
    }

    private static void unusedParts(Check check) {
        DerivativeCompiler compiler = new DerivativeCompiler();
        compiler.function();
        compiler.expression(0, 1, 0, 0);
        int high = Integer.MAX_VALUE;
        check.due("if", compiler.statement(0, 2, high, 0), 1);
        check.due("else", compiler.statement(0, 3, -1, high), 2);
        check.due("end", compiler.statement(0, 5, high, -1), 3);
        check.due("repeat", compiler.statement(0, 4, -1, 2), 4);
    }

    private static void elses(Check check) {
        Builder b = new Builder();
        int one = b.constant(1);
        int f = b.compiler.function();
        check.due("else of nothing", b.doElse(f), -1);
        b.repeat(f, 1);
        check.due("else of a repeat", b.doElse(f), -1);
        b.doIf(f, one);
        b.repeat(f, 1);
        check.due("else of a repeat within an if", b.doElse(f), -1);
        b.end(f);
        check.due("else", b.doElse(f), 5);
        check.due("a second else", b.doElse(f), -1);
        b.doIf(f, one);
        check.due("else of an if within an else", b.doElse(f), 7);
        b.end(f);
        check.due("a second else behind an inner if", b.doElse(f), -1);
        b.end(f);
        check.due("else behind the end", b.doElse(f), -1);
        check.due("count(3)", b.compiler.count(3), 1);
    }

    private static void ends(Check check) {
        Builder b = new Builder();
        int one = b.constant(1);
        int f = b.compiler.function();
        int g = b.compiler.function();
        check.due("end of nothing", b.end(f), -1);
        b.doIf(g, one);
        check.due("end of what another function has", b.end(f), -1);
        b.doIf(f, one);
        b.doElse(f);
        check.due("end of an else", b.end(f), 3);
        check.due("a second end", b.end(f), -1);
        b.repeat(f, 2);
        check.due("end of a repeat", b.end(f), 5);
        check.due("one end too many", b.end(f), -1);
        check.due("count(3)", b.compiler.count(3), 1);
    }

    private static void full(Check check) {
        Builder b = new Builder();
        int one = b.constant(1);
        int f = b.compiler.function();
        for (int i = 1; i <= 12; i++) {
            check.due("statement " + i, b.repeat(f, 1), i);
        }
        check.due("a 13th", b.set(f, 0, one), -1);
        check.due("a 13th, an end", b.end(f), -1);
        check.due("count(2)", b.compiler.count(2), 12);
        check.due("count(3)", b.compiler.count(3), 12);
        check.due("the run", b.compiler.run(f, 3, 4), 3);
        int g = b.compiler.function();
        check.due("another function has room", b.set(g, 0, one), 1);
    }

    private static void circles(Check check) {
        Builder b = new Builder();
        int x = b.variable(0);
        int f = b.compiler.function();
        int g = b.compiler.function();
        int h = b.compiler.function();
        int callF = b.call(f, x, x);
        int callG = b.call(g, x, x);
        int callH = b.call(h, x, x);
        int deepF = b.power(b.negative(b.element(0, callF)), 0);
        check.due("itself", b.set(f, 0, callF), -1);
        check.due("itself, deep within", b.doIf(f, deepF), -1);
        check.due("f calls g", b.set(f, 0, callG), 1);
        check.due("g calls f", b.setElement(g, 0, callF), -1);
        check.due("g calls h", b.set(g, 0, callH), 1);
        check.due("h calls f", b.set(h, 0, callF), -1);
        check.due("h calls f, deep within", b.set(h, 0, deepF), -1);
        check.due("h calls g", b.doIf(h, callG), -1);
        check.due("count(2)", b.compiler.count(2), 2);
        check.due("count(3)", b.compiler.count(3), 0);
        check.due("f calls h", b.compiler.calls(f, h), 1);
        check.due("h calls f", b.compiler.calls(h, f), 0);
    }

    private static void dearOnes(Check check) {
        Builder b = new Builder();
        int e = b.constant(1);
        for (int i = 1; i < 38; i++) {
            e = b.negative(e);
        }
        int f = b.compiler.function();
        check.due("a cost of 40", b.set(f, 0, e), 1);
        check.due("cost", b.compiler.cost(f), 40);
        check.due("more", b.repeat(f, 1), -1);
        check.due("more", b.set(f, 0, 0), -1);
        check.due("cost", b.compiler.cost(f), 40);
        int g = b.compiler.function();
        check.due("a cost of 41", b.set(g, 0, b.negative(e)), -1);
        check.due("cost", b.compiler.cost(g), 1);
        int h = b.compiler.function();
        b.repeat(h, 5);
        b.repeat(h, 5);
        b.repeat(h, 5);
        check.due("cost of repeats", b.compiler.cost(h), 32);
        check.due("within 125 rounds", b.set(h, 0, 0), -1);
        check.due("a repeat within 125 rounds", b.repeat(h, 1), -1);
        b.end(h);
        check.due("within 25 rounds", b.set(h, 0, 0), -1);
        b.end(h);
        check.due("within 5 rounds", b.set(h, 0, 0), -1);
        b.end(h);
        check.due("outside", b.set(h, 0, 0), 7);
        check.due("cost", b.compiler.cost(h), 34);
    }

    private static void dearCallers(Check check) {
        Builder b = new Builder();
        int x = b.variable(0);
        int f = b.compiler.function();
        int g = b.compiler.function();
        int h = b.compiler.function();
        b.repeat(g, 2);
        b.set(g, 0, b.call(f, x, x));
        check.due("cost of g", b.compiler.cost(g), 12);
        b.set(h, 0, b.size(b.call(g, x, x)));
        check.due("cost of h", b.compiler.cost(h), 33);
        check.due("f grows by 2, h by 8", b.set(f, 0, x), -1);
        check.due("f grows by 1, h by 4", b.repeat(f, 1), 1);
        check.due("cost of f", b.compiler.cost(f), 2);
        check.due("cost of g", b.compiler.cost(g), 14);
        check.due("cost of h", b.compiler.cost(h), 37);
        check.due("f grows by 1 more", b.repeat(f, 1), -1);
        check.due("g grows by 2", b.repeat(g, 1), -1);
        check.due("h grows by 3", b.set(h, 0, b.negative(x)), 2);
        check.due("h grows by 1 more", b.repeat(h, 1), -1);
        check.due("cost of h", b.compiler.cost(h), 40);
    }

    /** Costs that would overflow an int or a long stay too dear. */
    private static void endlessCosts(Check check) {
        Builder b = new Builder();
        int f = b.compiler.function();
        int g = b.compiler.function();
        int sum = b.variable(0);
        int call = b.call(f, sum, sum);
        for (int i = 0; i < 39; i++) {
            sum = b.sum(sum, sum);
            call = i % 2 == 0 ? b.greater(call, call) : b.power(call, 3);
            if (i >= 4) {
                check.due("a sum of " + i, b.set(g, 0, sum), -1);
                check.due("a call of " + i, b.doIf(g, call), -1);
                check.due("calls", b.compiler.calls(g, f), 0);
            }
        }
        check.due("cost", b.compiler.cost(g), 1);
        check.due("a cheap one", b.set(g, 0, 0), 1);
    }
}
