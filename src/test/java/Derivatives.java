/** An own function with all its derivatives, each of them worked out in every way that there is. */
final class Derivatives {
    private final Check check;
    private final Builder b;
    private final int own;
    private final int first;

    /** Needs room for six functions more. */
    Derivatives(Check check, Builder b, int own) {
        this.check = check;
        this.b = b;
        this.own = own;
        this.first = b.derive(own, 0);
        int byY = b.derive(own, 1);
        b.derive(first, 0);
        b.derive(first, 1);
        b.derive(byY, 0);
        b.derive(byY, 1);
    }

    /** The function that works out this one expression. */
    static Derivatives of(Check check, Builder b, int expression) {
        int own = b.function();
        b.set(own, 0, expression);
        return new Derivatives(check, b, own);
    }

    /** The dues: the result, its derivatives by x, y, x x, x y, y x and y y; those left out are 0. */
    void due(String what, long x, long y, long... dues) {
        String[] names = {"", " by x", " by y", " by x and x", " by x and y", " by y and x", " by y and y"};
        String at = " at " + x + ", " + y;
        for (int i = 0; i < names.length; i++) {
            int function = i == 0 ? own : first + i - 1;
            check.due(what + names[i] + at, b.run(function, x, y), i < dues.length ? dues[i] : 0);
        }
        for (int by = 0; by < 2; by++) {
            long due = by + 1 < dues.length ? dues[by + 1] : 0;
            check.due(what + names[by + 1] + " backwards" + at, b.compiler.gradient(own, by, x, y), due);
        }
    }
}
