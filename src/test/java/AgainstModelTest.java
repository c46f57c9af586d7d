import java.util.Random;

/** Runs of many calls, right and wrong ones, on the program and on the model: the answers are the same. */
public final class AgainstModelTest {
    private static final int RUNS = 5000;
    /** Fewer derivatives of the second order than this that are not 0 would test little. */
    private static final int ENOUGH_BENDS = 10000;
    private static final int CALLS = 512;
    private static final long[] ODD_VALUES = {
        0, 1, -1, 2, 3, -4, Long.MIN_VALUE, Long.MAX_VALUE, 1L << 32, -(1L << 31), 3037000500L,
    };

    private final Check check;
    private final Random random;
    private final DerivativeCompiler program = new DerivativeCompiler();
    private final Model model = new Model();
    private final int wrongness;
    private final int owns;
    private int bends = 0;

    private AgainstModelTest(Check check, long seed) {
        this.check = check;
        this.random = new Random(seed);
        this.wrongness = random.nextInt(3) == 0 ? 4 : 40;
        this.owns = 1 + random.nextInt(8);
        for (int i = 0; i < owns; i++) {
            check.due("function()", program.function(), model.function());
        }
    }

    public static void main(String[] args) {
        Check check = new Check("against the model");
        int bends = 0;
        for (int run = 0; run < RUNS && check.wrong() < 20; run++) {
            AgainstModelTest test = new AgainstModelTest(check, run);
            for (int i = 0; i < CALLS - test.owns && check.wrong() < 20; i++) {
                test.callOnce("run " + run + " call " + i + " ");
            }
            bends += test.bends;
        }
        check.due("enough derivatives of order 2 that are not 0, with " + bends, bends >= ENOUGH_BENDS ? 1 : 0, 1);
        check.finish();
    }

    private void callOnce(String label) {
        int pick = random.nextInt(100);
        if (pick < 18) {
            expression(label);
        } else if (pick < 19) {
            check.due(label + "function()", program.function(), model.function());
        } else if (pick < 45) {
            statement(label);
        } else if (pick < 48) {
            derive(label);
        } else if (pick < 75) {
            run(label);
        } else if (pick < 85) {
            gradient(label);
        } else {
            ask(label);
        }
    }

    /** A number from 0 to just below the bound, and now and then one out of it. */
    private int below(int bound) {
        if (bound <= 0 || random.nextInt(wrongness) == 0) {
            int[] out = {-1, bound, bound + 1, Integer.MIN_VALUE, Integer.MAX_VALUE, -bound};
            return out[random.nextInt(out.length)];
        }
        return random.nextInt(bound);
    }

    /** Mostly cheap expressions, so that many statements are let in; now and then the latest ones. */
    private int someExpression() {
        int made = model.count(0);
        return switch (random.nextInt(4)) {
            case 0 -> below(made);
            case 1 -> made - 1 - random.nextInt(3);
            case 2 -> below(Math.min(made, 16));
            default -> below(Math.min(made, 4));
        };
    }

    private int someFunction() {
        int made = model.count(1);
        return random.nextBoolean() ? below(made) : below(Math.min(made, owns));
    }

    private long someValue() {
        return switch (random.nextInt(4)) {
            case 0 -> ODD_VALUES[random.nextInt(ODD_VALUES.length)];
            case 1 -> random.nextLong();
            default -> random.nextInt(15) - 7;
        };
    }

    private void expression(String label) {
        int made = model.count(0);
        int[] kinds = {2, 3, 4, 4, 4, 4, 6, 6, 11, 11, below(12), below(12)};
        int[] variables = {0, 0, 1, 1, below(6)};
        int kind = made < 2 ? 1 : made < 6 ? 4 : kinds[random.nextInt(kinds.length)];
        int a = made < 2 ? made : kind == 0 ? random.nextInt(11) - 5 : someExpression();
        a = made >= 2 && kind == 1 ? variables[random.nextInt(5)] : a;
        int b = kind == 6 ? below(4) : kind == 10 ? below(2) : someExpression();
        int c = someFunction();
        check.due(label + "expression(" + kind + ", " + a + ", " + b + ", " + c + ")",
                program.expression(kind, a, b, c), model.expression(kind, a, b, c));
    }

    private void statement(String label) {
        int function = someFunction();
        int[] kinds = {0, 0, 0, 0, 0, 0, 1, 1, 2, 3, 4, 5, below(6)};
        int kind = kinds[random.nextInt(kinds.length)];
        int[] variables = {0, 0, 0, 1, below(6)};
        int a = kind == 0 ? variables[random.nextInt(5)] : below(2);
        int b = kind == 4 ? below(7) : someExpression();
        check.due(label + "statement(" + function + ", " + kind + ", " + a + ", " + b + ")",
                program.statement(function, kind, a, b), model.statement(function, kind, a, b));
    }

    private void derive(String label) {
        int function = random.nextInt(3) == 0 ? model.count(1) - 1 : someFunction();
        int by = below(2);
        check.due(label + "derive(" + function + ", " + by + ")",
                program.derive(function, by), model.derive(function, by));
    }

    private void run(String label) {
        int made = model.count(1);
        int function = random.nextInt(3) == 0 ? made - 1 - random.nextInt(3) : below(made);
        long x = someValue();
        long y = someValue();
        long due = model.run(function, x, y);
        bends += model.order(function) == 2 && due != 0 ? 1 : 0;
        check.due(label + "run(" + function + ", " + x + ", " + y + ")", program.run(function, x, y), due);
    }

    private void gradient(String label) {
        int function = someFunction();
        int by = below(2);
        long x = someValue();
        long y = someValue();
        check.due(label + "gradient(" + function + ", " + by + ", " + x + ", " + y + ")",
                program.gradient(function, by, x, y), model.gradient(function, by, x, y));
    }

    private void ask(String label) {
        int function = below(model.count(1));
        int other = below(model.count(1));
        int what = below(4);
        switch (random.nextInt(4)) {
            case 0 -> check.due(label + "cost(" + function + ")", program.cost(function), model.cost(function));
            case 1 -> check.due(label + "order(" + function + ")", program.order(function), model.order(function));
            case 2 -> check.due(label + "calls(" + function + ", " + other + ")",
                    program.calls(function, other), model.calls(function, other));
            default -> check.due(label + "count(" + what + ")", program.count(what), model.count(what));
        }
    }
}
