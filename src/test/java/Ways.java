/** States that refused calls are tried in. */
final class Ways {
    static final int LOW = Integer.MIN_VALUE;
    static final int HIGH = Integer.MAX_VALUE;

    /** What busy makes: expressions 0 .. 7, functions 0 .. 4 of which 2 is derived and 3 is derived from it. */
    static final int EXPRESSIONS = 8;
    static final int FUNCTIONS = 5;
    static final int[] OWN = {0, 1, 4};
    static final int[] DERIVED = {2, 3};
    static final int[] NO_EXPRESSIONS = {-1, LOW, EXPRESSIONS, EXPRESSIONS + 1, 79, 80, 256, 1 << 16, HIGH};
    static final int[] NO_FUNCTIONS = {-1, LOW, FUNCTIONS, 7, 8, 256, 1 << 16, HIGH};

    private Ways() {
    }

    static void nothing(Builder b) {
    }

    /** Function 0 calls 1, which has an ELSE open; 4 has a REPEAT and an IF open and an array in use. */
    static void busy(Builder b) {
        int f = b.function();
        int g = b.function();
        b.derive(b.derive(f, 0), 1);
        int h = b.function();
        int x = b.variable(0);
        int y = b.variable(1);
        int product = b.product(x, y);
        int element = b.element(0, y);
        int callG = b.call(g, x, product);
        b.call(f, x, y);
        b.call(h, y, x);
        b.constant(-3);
        b.set(f, 0, callG);
        b.doIf(g, y);
        b.set(g, 0, product);
        b.doElse(g);
        b.set(g, 0, element);
        b.repeat(h, 2);
        b.set(h, 5, x);
        b.setElement(h, 0, product);
        b.doIf(h, y);
        b.set(h, 0, element);
    }

    static void fullOfExpressions(Builder b) {
        busy(b);
        for (int i = EXPRESSIONS; i < 80; i++) {
            b.negative(i - 1);
        }
    }

    /** All eight functions own ones, the first two of them with statements. */
    static void fullOfOwnFunctions(Builder b) {
        int x = b.variable(0);
        for (int i = 0; i < 8; i++) {
            b.function();
        }
        b.set(0, 0, b.call(1, x, x));
        b.repeat(1, 2);
    }

    /** The three own functions of busy, and derived ones. */
    static void fullOfFunctions(Builder b) {
        busy(b);
        for (int i = FUNCTIONS; i < 8; i++) {
            b.derive(4, i % 2);
        }
    }

    /** Nothing has room: 80 expressions, 8 functions, and 12 statements in each of them. */
    static void fullOfAll(Builder b) {
        for (int i = 0; i < 8; i++) {
            b.function();
        }
        b.variable(0);
        for (int i = 1; i < 80; i++) {
            b.negative(0);
        }
        for (int f = 0; f < 8; f++) {
            for (int i = 0; i < 12; i++) {
                if (i < 6) {
                    b.repeat(f, 1);
                } else {
                    b.set(f, 0, i);
                }
            }
        }
    }
}
