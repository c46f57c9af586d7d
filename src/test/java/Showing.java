import java.util.ArrayList;
import java.util.List;

/**
 * All that later calls can show of an object: its answers to every question, to statements, expressions and
 * functions made then, and to the questions again. These are 274 calls, so that an object that was built
 * with up to 238 is not used beyond its 512th.
 */
final class Showing {
    record Answer(String call, long value) {
    }

    private static final int FUNCTIONS = 8;

    private final DerivativeCompiler compiler;
    private final List<Answer> answers = new ArrayList<>();

    private Showing(DerivativeCompiler compiler) {
        this.compiler = compiler;
    }

    static List<Answer> of(DerivativeCompiler compiler) {
        Showing showing = new Showing(compiler);
        showing.look();
        showing.lookAtCalls();
        showing.grow();
        showing.look();
        return showing.answers;
    }

    private long say(String call, long value) {
        answers.add(new Answer(call, value));
        return value;
    }

    private void look() {
        for (int what = 0; what < 4; what++) {
            say("count(" + what + ")", compiler.count(what));
        }
        for (int f = 0; f < FUNCTIONS; f++) {
            say("order(" + f + ")", compiler.order(f));
            say("cost(" + f + ")", compiler.cost(f));
            say("run(" + f + ", 3, 5)", compiler.run(f, 3, 5));
            say("run(" + f + ", -2, -7)", compiler.run(f, -2, -7));
            say("gradient(" + f + ", 0, 3, 5)", compiler.gradient(f, 0, 3, 5));
            say("gradient(" + f + ", 1, 3, 5)", compiler.gradient(f, 1, 3, 5));
        }
    }

    private void lookAtCalls() {
        for (int f = 0; f < FUNCTIONS; f++) {
            for (int other = 0; other < FUNCTIONS; other++) {
                say("calls(" + f + ", " + other + ")", compiler.calls(f, other));
            }
        }
    }

    private void grow() {
        say("expression(1, 0, 0, 0)", compiler.expression(1, 0, 0, 0));
        int[] callsOf = new int[FUNCTIONS];
        for (int f = 0; f < FUNCTIONS; f++) {
            callsOf[f] = (int) say("expression(11, 0, 0, " + f + ")", compiler.expression(11, 0, 0, f));
        }
        for (int f = 0; f < FUNCTIONS; f++) {
            for (int other = 0; other < FUNCTIONS; other++) {
                int e = callsOf[other];
                say("statement(" + f + ", 0, 2, " + e + ")", compiler.statement(f, 0, 2, e));
            }
            say("statement(" + f + ", 3, 0, 0)", compiler.statement(f, 3, 0, 0));
            say("statement(" + f + ", 0, 0, 0)", compiler.statement(f, 0, 0, 0));
            say("statement(" + f + ", 5, 0, 0)", compiler.statement(f, 5, 0, 0));
            say("derive(" + f + ", 1)", compiler.derive(f, 1));
        }
        say("function()", compiler.function());
    }
}
