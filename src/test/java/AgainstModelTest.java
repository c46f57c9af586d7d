import java.util.Random;

/** Runs of many calls, right and wrong ones, on the program and on the model: the answers are the same. */
public final class AgainstModelTest {
    private static final int RUNS = 4000;
    private static final int CALLS = 512;
    private static final long[] ODD_VALUES = {
        0, 1, -1, 2, 3, -4, Long.MIN_VALUE, Long.MAX_VALUE, 1L << 32, -(1L << 31), 3037000500L,
    };

    private final Check check;
    private final Random random;
    private final DerivativeCompiler program = new DerivativeCompiler();
    private final Model model = new Model();
    private final int wrongness;

    private AgainstModelTest(Check check, long seed) {
        this.check = check;
        this.random = new Random(seed);
        this.wrongness = random.nextInt(3) == 0 ? 4 : 40;
    }

    public static void main(String[] args) {
        Check check = new Check("against the model");
        for (int run = 0; run < RUNS && check.wrong() < 20; run++) {
            AgainstModelTest test = new AgainstModelTest(check, run);
            for (int i = 0; i < CALLS && check.wrong() < 20; i++) {
                test.callOnce("run " + run + " call " + i + " ");
            }
        }
        check.finish();
    }

    private void callOnce(String label) {
        int pick = random.nextInt(100);
        if (pick < 18) {
            expression(label);
        } else if (pick < 20) {
            check.due(label + "function()", program.function(), model.function());
        } else if (pick < 50) {
            statement(label);
        } else if (pick < 53) {
            derive(label);
        } else if (pick < 75) {
            run(label);
        } else if (pick < 85) {
            gradient(label);
        } else {
            ask(label);
        }
    }

    /** A number from 0 to just below the bound, and now and then one out of it. */
    private int below(int bound) {
        if (bound <= 0 || random.nextInt(wrongness) == 0) {
            int[] out = {-1, bound, bound + 1, Integer.MIN_VALUE, Integer.MAX_VALUE, -bound};
            return out[random.nextInt(out.length)];
        }
        return random.nextInt(bound);
    }

    /** Mostly cheap expressions, so that many statements are let in; now and then the latest ones. */
    private int someExpression() {
        int made = model.count(0);
        if (random.nextInt(3) == 0) {
            return below(made);
        }
        return random.nextBoolean() ? below(Math.min(made, 12)) : made - 1 - random.nextInt(3);
    }

    private long someValue() {
        return switch (random.nextInt(4)) {
            case 0 -> ODD_VALUES[random.nextInt(ODD_VALUES.length)];
            case 1 -> random.nextLong();
            default -> random.nextInt(9) - 4;
        };
    }

    private void expression(String label) {
        int made = model.count(0);
        int kind = made < 6 ? random.nextInt(2) : below(12);
        if (made >= 6 && random.nextInt(6) == 0) {
            kind = 11;
        }
        int a = kind == 0 ? random.nextInt(11) - 5 : kind == 1 ? below(6) : someExpression();
        int b = kind == 6 ? below(4) : kind == 10 ? below(2) : someExpression();
        int c = below(model.count(1));
        check.due(label + "expression(" + kind + ", " + a + ", " + b + ", " + c + ")",
                program.expression(kind, a, b, c), model.expression(kind, a, b, c));
    }

    private void statement(String label) {
        int function = below(model.count(1));
        int[] kinds = {0, 0, 0, 0, 1, 1, 2, 3, 4, 5, below(6)};
        int kind = kinds[random.nextInt(kinds.length)];
        int a = kind == 0 ? random.nextInt(3) == 0 ? 0 : below(6) : below(2);
        int b = kind == 4 ? below(7) : someExpression();
        check.due(label + "statement(" + function + ", " + kind + ", " + a + ", " + b + ")",
                program.statement(function, kind, a, b), model.statement(function, kind, a, b));
    }

    private void derive(String label) {
        int function = below(model.count(1));
        int by = below(2);
        check.due(label + "derive(" + function + ", " + by + ")",
                program.derive(function, by), model.derive(function, by));
    }

    private void run(String label) {
        int function = below(model.count(1));
        long x = someValue();
        long y = someValue();
        check.due(label + "run(" + function + ", " + x + ", " + y + ")",
                program.run(function, x, y), model.run(function, x, y));
    }

    private void gradient(String label) {
        int function = below(model.count(1));
        int by = below(2);
        long x = someValue();
        long y = someValue();
        check.due(label + "gradient(" + function + ", " + by + ", " + x + ", " + y + ")",
                program.gradient(function, by, x, y), model.gradient(function, by, x, y));
    }

    private void ask(String label) {
        int function = below(model.count(1));
        int other = below(model.count(1));
        int what = below(4);
        switch (random.nextInt(4)) {
            case 0 -> check.due(label + "cost(" + function + ")", program.cost(function), model.cost(function));
            case 1 -> check.due(label + "order(" + function + ")", program.order(function), model.order(function));
            case 2 -> check.due(label + "calls(" + function + ", " + other + ")",
                    program.calls(function, other), model.calls(function, other));
            default -> check.due(label + "count(" + what + ")", program.count(what), model.count(what));
        }
    }
}
