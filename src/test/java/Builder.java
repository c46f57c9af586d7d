/** Plain names for the kinds of expressions and statements; what a kind has no use for is -7. */
final class Builder {
    final DerivativeCompiler compiler = new DerivativeCompiler();

    int function() {
        return compiler.function();
    }

    int derive(int function, int by) {
        return compiler.derive(function, by);
    }

    int constant(int value) {
        return compiler.expression(0, value, -7, -7);
    }

    int variable(int number) {
        return compiler.expression(1, number, -7, -7);
    }

    int sum(int a, int b) {
        return compiler.expression(2, a, b, -7);
    }

    int difference(int a, int b) {
        return compiler.expression(3, a, b, -7);
    }

    int product(int a, int b) {
        return compiler.expression(4, a, b, -7);
    }

    int negative(int a) {
        return compiler.expression(5, a, -7, -7);
    }

    int power(int a, int exponent) {
        return compiler.expression(6, a, exponent, -7);
    }

    int size(int a) {
        return compiler.expression(7, a, -7, -7);
    }

    int lesser(int a, int b) {
        return compiler.expression(8, a, b, -7);
    }

    int greater(int a, int b) {
        return compiler.expression(9, a, b, -7);
    }

    int element(int array, int place) {
        return compiler.expression(10, place, array, -7);
    }

    int call(int function, int a, int b) {
        return compiler.expression(11, a, b, function);
    }

    /** An expression of the cost that is asked for, 1 or more, that works out x or its negative. */
    int costing(int cost) {
        int e = variable(0);
        for (int i = 1; i < cost; i++) {
            e = negative(e);
        }
        return e;
    }

    int set(int function, int variable, int expression) {
        return compiler.statement(function, 0, variable, expression);
    }

    int setElement(int function, int array, int expression) {
        return compiler.statement(function, 1, array, expression);
    }

    int doIf(int function, int expression) {
        return compiler.statement(function, 2, -7, expression);
    }

    int doElse(int function) {
        return compiler.statement(function, 3, -7, -7);
    }

    int repeat(int function, int times) {
        return compiler.statement(function, 4, -7, times);
    }

    int end(int function) {
        return compiler.statement(function, 5, -7, -7);
    }

    long run(int function, long x, long y) {
        return compiler.run(function, x, y);
    }

    int cost(int function) {
        return compiler.cost(function);
    }
}
