import java.io.IOException;

/** What the terms say of costs and calls. */
public final class TermsOfCostsTest {
    public static void main(String[] args) throws IOException {
        Sentences terms = new Sentences("Terms");
        terms.test("of an expression 1 and the costs of the expressions a and b that it has",
                TermsOfCostsTest::expressions);
        terms.test("(of both, if they are the same one, too)", TermsOfCostsTest::sameTwice);
        terms.test("but for a size, a lesser and a greater twice these", TermsOfCostsTest::twice);
        terms.test("for a power b so many times that of a (once for power 0)", TermsOfCostsTest::powers);
        terms.test("a call also that of its function as it is", TermsOfCostsTest::callsOfFunctions);
        terms.test("Of a statement of kind 0 and 1: 1 and its expression's; IF: likewise; REPEAT: 1.",
                TermsOfCostsTest::statements);
        terms.test("Of a function: 1 and those of its statements, each times the numbers of all REPEATs"
                + " that it is within.", TermsOfCostsTest::functions);
        terms.test("The cost of a function that has statements added changes", TermsOfCostsTest::changes);
        terms.test("no own function may come to cost more than 40.", TermsOfCostsTest::forty);
        terms.test("no own function may come to cost more than 40.", TermsOfCostsTest::fortyWithinRepeats);
        terms.test("no own function may come to cost more than 40.", TermsOfCostsTest::fortyOfCallers);
        terms.test("no own function may come to cost more than 40.", TermsOfCostsTest::farMore);
        terms.test("a function calls another if an expression in its statements (at any depth) does,"
                + " or one that it calls.", TermsOfCostsTest::callsAtAnyDepth);
        terms.test("A statement may be added only if no function then calls itself.", TermsOfCostsTest::circles);
        terms.test("A statement may be added only if no function then calls itself.", TermsOfCostsTest::noCircles);
        terms.finish();
    }

    private static void costs(Check check, String what, Builder b, int expression, int due) {
        int f = b.function();
        check.due(what + ", its statement", b.set(f, 0, expression), 1);
        check.due(what, b.cost(f), 2 + due);
    }

    private static void expressions(Check check) {
        Builder b = new Builder();
        int constant = b.constant(Integer.MIN_VALUE);
        int x = b.variable(5);
        int three = b.sum(x, constant);
        costs(check, "a constant", b, constant, 1);
        costs(check, "a variable", b, x, 1);
        costs(check, "a sum", b, three, 3);
        costs(check, "a difference", b, b.difference(three, x), 5);
        costs(check, "a product", b, b.product(x, three), 5);
        costs(check, "a negative", b, b.negative(three), 4);
        // b of an element is an array, and of a constant and a variable nothing, although an expression bears it
        costs(check, "an element", b, b.compiler.expression(10, three, 1, 2), 4);
        costs(check, "a variable beside a number", b, b.compiler.expression(1, 2, 2, 2), 1);
    }

    private static void sameTwice(Check check) {
        Builder b = new Builder();
        int x = b.variable(0);
        int empty = b.function();
        int three = b.sum(x, x);
        costs(check, "a sum", b, three, 3);
        costs(check, "a difference", b, b.difference(three, three), 7);
        costs(check, "a product", b, b.product(three, three), 7);
        costs(check, "a lesser", b, b.lesser(three, three), 13);
        costs(check, "a greater", b, b.greater(three, three), 13);
        costs(check, "a call", b, b.call(empty, three, three), 8);
        b = new Builder();
        x = b.variable(0);
        empty = b.function();
        int call = b.call(empty, x, x);
        costs(check, "a sum of a call", b, b.sum(call, call), 9);
        costs(check, "a difference of a call", b, b.difference(call, call), 9);
        costs(check, "a product of a call", b, b.product(call, call), 9);
        costs(check, "a lesser of a call", b, b.lesser(call, call), 17);
        costs(check, "a greater of a call", b, b.greater(call, call), 17);
        costs(check, "a call of a call", b, b.call(empty, call, call), 10);
        b.repeat(empty, 1);
        check.due("the sum when the function has grown", b.cost(1), 2 + 9 + 2);
        check.due("the lesser when the function has grown", b.cost(4), 2 + 17 + 4);
        check.due("the call of a call when the function has grown", b.cost(6), 2 + 10 + 3);
    }

    private static void twice(Check check) {
        Builder b = new Builder();
        int x = b.variable(0);
        int empty = b.function();
        costs(check, "a size", b, b.size(x), 3);
        costs(check, "a size of a size", b, b.size(b.size(x)), 7);
        costs(check, "a lesser", b, b.lesser(x, b.size(x)), 9);
        costs(check, "a greater", b, b.greater(b.size(x), x), 9);
        costs(check, "a size of a call", b, b.size(b.call(empty, x, x)), 9);
        costs(check, "a lesser with a call", b, b.lesser(x, b.call(empty, x, x)), 11);
    }

    private static void powers(Check check) {
        int[] dues = {4, 4, 7, 10};
        for (int power = 0; power <= 3; power++) {
            Builder b = new Builder();
            int x = b.variable(0);
            costs(check, "power " + power, b, b.power(b.sum(x, x), power), dues[power]);
        }
        int[] withCalls = {5, 5, 9, 13};
        for (int power = 0; power <= 3; power++) {
            Builder b = new Builder();
            int x = b.variable(0);
            int empty = b.function();
            costs(check, "power " + power + " of a call", b, b.power(b.call(empty, x, x), power), withCalls[power]);
        }
    }

    private static void callsOfFunctions(Check check) {
        Builder b = new Builder();
        int f = b.function();
        int g = b.function();
        int x = b.variable(0);
        int call = b.call(f, x, x);
        b.set(g, 0, call);
        check.due("a call of a function without statements", b.cost(g), 6);
        b.repeat(f, 1);
        check.due("of one with a repeat", b.cost(g), 7);
        b.end(f);
        check.due("and an end", b.cost(g), 7);
        b.set(f, 0, b.costing(32));
        check.due("f at its dearest for g", b.cost(f), 35);
        check.due("g at its dearest", b.cost(g), 40);
        check.due("f dearer still", b.repeat(f, 1), -1);
    }

    private static void statements(Check check) {
        Builder b = new Builder();
        int f = b.function();
        int three = b.sum(b.variable(0), b.variable(1));
        b.set(f, 0, three);
        check.due("a variable's", b.cost(f), 5);
        b.setElement(f, 0, three);
        check.due("an element's", b.cost(f), 9);
        b.doIf(f, three);
        check.due("an if's", b.cost(f), 13);
        b.doElse(f);
        check.due("an else's, which has none", b.cost(f), 13);
        b.end(f);
        check.due("an end's, which has none", b.cost(f), 13);
        b.repeat(f, 5);
        check.due("a repeat's", b.cost(f), 14);
        b.end(f);
        check.due("its end's, which has none", b.cost(f), 14);
    }

    private static void functions(Check check) {
        Builder b = new Builder();
        int f = b.function();
        int x = b.variable(0);
        check.due("without statements", b.cost(f), 1);
        b.repeat(f, 1);
        b.set(f, 0, x);
        check.due("once", b.cost(f), 4);
        b.repeat(f, 5);
        check.due("a repeat within one", b.cost(f), 5);
        b.setElement(f, 0, x);
        check.due("five times", b.cost(f), 15);
        b.doIf(f, x);
        check.due("an if within it", b.cost(f), 25);
        b.doElse(f);
        b.repeat(f, 1);
        check.due("a repeat within the else", b.cost(f), 30);
        b.set(f, 1, x);
        check.due("a statement within that", b.cost(f), 40);
        b.end(f);
        b.end(f);
        check.due("twelve with the last end", b.end(f), 11);
        check.due("ends", b.cost(f), 40);
        int g = b.function();
        b.repeat(g, 3);
        b.end(g);
        b.set(g, 0, x);
        check.due("behind an end", b.cost(g), 4);
        b.repeat(g, 2);
        b.repeat(g, 3);
        b.set(g, 0, x);
        check.due("six times", b.cost(g), 4 + 1 + 2 + 12);
        b.end(g);
        b.set(g, 0, x);
        check.due("twice", b.cost(g), 19 + 4);
    }

    private static void changes(Check check) {
        Builder b = new Builder();
        int f = b.function();
        int g = b.function();
        int h = b.function();
        int x = b.variable(0);
        int call = b.call(f, x, x);
        b.repeat(g, 2);
        b.setElement(g, 0, call);
        check.due("g", b.cost(g), 12);
        b.set(h, 0, b.call(g, x, call));
        check.due("h", b.cost(h), 1 + 1 + 1 + 1 + 4 + 12);
        b.repeat(f, 1);
        check.due("f grown", b.cost(f), 2);
        check.due("g with f grown", b.cost(g), 14);
        check.due("h with f grown", b.cost(h), 23);
        b.set(f, 0, x);
        check.due("f grown again", b.cost(f), 4);
        check.due("g with f grown again", b.cost(g), 18);
        check.due("h with f grown again", b.cost(h), 29);
        b.set(g, 0, x);
        check.due("g grown", b.cost(g), 22);
        check.due("h with g grown", b.cost(h), 33);
    }

    private static void forty(Check check) {
        Builder b = new Builder();
        int f = b.function();
        int dearest = b.costing(38);
        int tooDear = b.negative(dearest);
        check.due("41", b.set(f, 0, tooDear), -1);
        check.due("41 by an element", b.setElement(f, 0, tooDear), -1);
        check.due("41 by an if", b.doIf(f, tooDear), -1);
        check.due("its cost", b.cost(f), 1);
        check.due("40", b.set(f, 0, dearest), 1);
        check.due("its cost", b.cost(f), 40);
        check.due("one more", b.repeat(f, 1), -1);
        check.due("two more", b.set(f, 0, 0), -1);
        check.due("its cost", b.cost(f), 40);
        int g = b.function();
        check.due("39 by an if", b.doIf(g, dearest - 1), 1);
        check.due("two more", b.setElement(g, 0, 0), -1);
        check.due("an else costs nothing", b.doElse(g), 2);
        check.due("one more", b.repeat(g, 5), 3);
        check.due("its cost", b.cost(g), 40);
        check.due("one more", b.repeat(g, 1), -1);
        check.due("an end costs nothing", b.end(g), 4);
        check.due("another end", b.end(g), 5);
        check.due("its cost", b.cost(g), 40);
    }

    private static void fortyWithinRepeats(Check check) {
        Builder b = new Builder();
        int dear = b.costing(19);
        int f = b.function();
        b.repeat(f, 2);
        check.due("twice 20", b.set(f, 0, dear), -1);
        check.due("twice 19", b.set(f, 0, dear - 1), 2);
        check.due("its cost", b.cost(f), 40);
        check.due("twice 1", b.repeat(f, 1), -1);
        int g = b.function();
        b.repeat(g, 5);
        b.repeat(g, 5);
        check.due("25 times 2", b.set(g, 0, 0), -1);
        check.due("a repeat 25 times", b.repeat(g, 5), 3);
        check.due("its cost", b.cost(g), 32);
        check.due("125 times 1", b.repeat(g, 1), -1);
        check.due("125 times 2", b.doIf(g, 0), -1);
        b.end(g);
        check.due("25 times 1", b.repeat(g, 1), -1);
        b.end(g);
        check.due("5 times 2", b.setElement(g, 1, 0), -1);
        check.due("5 times 1", b.repeat(g, 1), 6);
        check.due("its cost", b.cost(g), 37);
        check.due("5 times 1", b.repeat(g, 1), -1);
        b.end(g);
        b.end(g);
        check.due("4", b.set(g, 0, 2), -1);
        check.due("3", b.set(g, 0, 1), 9);
        check.due("its cost", b.cost(g), 40);
    }

    private static void fortyOfCallers(Check check) {
        Builder b = new Builder();
        int x = b.variable(0);
        int f = b.function();
        int g = b.function();
        int h = b.function();
        b.repeat(g, 2);
        b.set(g, 0, b.call(f, x, x));
        check.due("cost of g", b.cost(g), 12);
        b.set(h, 0, b.size(b.call(g, x, x)));
        check.due("cost of h", b.cost(h), 33);
        check.due("f grows by 2, h by 8", b.set(f, 0, x), -1);
        check.due("f grows by 1, h by 4", b.repeat(f, 1), 1);
        check.due("cost of f", b.cost(f), 2);
        check.due("cost of g", b.cost(g), 14);
        check.due("cost of h", b.cost(h), 37);
        check.due("f grows by 1 more", b.repeat(f, 1), -1);
        check.due("g grows by 2", b.repeat(g, 1), -1);
        check.due("h grows by 4", b.set(h, 0, b.power(x, 2)), -1);
        check.due("h grows by 3", b.set(h, 0, b.negative(x)), 2);
        check.due("h grows by 1 more", b.repeat(h, 1), -1);
        check.due("f by an end", b.end(f), 2);
        check.due("g by an end", b.end(g), 3);
        check.due("g grows outside by 1, h by 2", b.repeat(g, 1), -1);
        check.due("cost of h", b.cost(h), 40);
    }

    /** Costs that no int and no long can hold are more than 40, too. */
    private static void farMore(Check check) {
        Builder b = new Builder();
        int f = b.function();
        int g = b.function();
        int sum = b.variable(0);
        int call = b.call(f, sum, sum);
        for (int i = 0; i < 39; i++) {
            sum = b.sum(sum, sum);
            call = i % 2 == 0 ? b.greater(call, call) : b.power(call, 3);
            if (i >= 4) {
                check.due("a sum of " + i, b.set(g, 0, sum), -1);
                check.due("a call of " + i, b.doIf(g, call), -1);
                check.due("calls", b.compiler.calls(g, f), 0);
            }
        }
        check.due("cost", b.cost(g), 1);
        check.due("a cheap one", b.set(g, 0, 0), 1);
        Builder doubling = new Builder();
        int h = doubling.function();
        int e = doubling.variable(0);
        for (int i = 1; i < 80; i++) {
            e = doubling.sum(e, e);
            check.due("doubled " + i + " times", doubling.set(h, 0, e), i <= 3 ? i : -1);
        }
        check.due("cost", doubling.cost(h), 1 + 4 + 8 + 16);
    }

    private static void callsAtAnyDepth(Check check) {
        for (int place = 0; place < 12; place++) {
            Builder b = new Builder();
            int f = b.function();
            int g = b.function();
            int h = b.function();
            int x = b.variable(0);
            int call = b.call(g, x, x);
            int[] within = {
                b.sum(call, x), b.sum(x, call), b.difference(x, call), b.product(call, x), b.negative(call),
                b.power(call, 0), b.power(call, 1), b.size(call), b.lesser(x, call), b.greater(call, x),
                b.element(1, call), b.call(h, x, call),
            };
            check.due("not yet", b.compiler.calls(f, g), 0);
            check.due("an expression", b.set(f, 0, b.negative(b.negative(within[place]))), 1);
            check.due("calls(f, g) by expression " + place, b.compiler.calls(f, g), 1);
            check.due("calls(f, h) by expression " + place, b.compiler.calls(f, h), place == 11 ? 1 : 0);
            check.due("calls(g, f)", b.compiler.calls(g, f), 0);
        }
        for (int kind = 0; kind <= 2; kind++) {
            Builder b = new Builder();
            int f = b.function();
            int g = b.function();
            int h = b.function();
            int x = b.variable(0);
            int callG = b.call(g, x, x);
            int callH = b.call(h, x, x);
            b.repeat(f, 1);
            b.doIf(f, x);
            b.doElse(f);
            check.due("within an else", b.compiler.statement(f, kind, 0, callG), 4);
            check.due("calls(f, g)", b.compiler.calls(f, g), 1);
            check.due("one that it calls, not yet", b.compiler.calls(f, h), 0);
            check.due("g calls h", b.compiler.statement(g, kind, 0, callH), 1);
            check.due("one that it calls", b.compiler.calls(f, h), 1);
        }
    }

    private static void circles(Check check) {
        for (int kind = 0; kind <= 2; kind++) {
            Builder b = new Builder();
            int x = b.variable(0);
            int f = b.function();
            int g = b.function();
            int h = b.function();
            int callF = b.call(f, x, x);
            int callG = b.call(g, x, x);
            int callH = b.call(h, x, x);
            int deepF = b.power(b.negative(b.element(0, callF)), 0);
            int argumentF = b.call(h, x, callF);
            check.due("itself", b.compiler.statement(f, kind, 0, callF), -1);
            check.due("itself, deep within", b.compiler.statement(f, kind, 0, deepF), -1);
            check.due("itself, for another one", b.compiler.statement(f, kind, 0, argumentF), -1);
            check.due("f calls g", b.compiler.statement(f, kind, 0, callG), 1);
            check.due("g calls f", b.compiler.statement(g, kind, 0, callF), -1);
            check.due("g calls f for another one", b.compiler.statement(g, kind, 0, argumentF), -1);
            check.due("g calls h", b.compiler.statement(g, kind, 0, callH), 1);
            check.due("h calls f", b.compiler.statement(h, kind, 0, callF), -1);
            check.due("h calls f, deep within", b.compiler.statement(h, kind, 0, deepF), -1);
            check.due("h calls g", b.compiler.statement(h, kind, 0, callG), -1);
            check.due("count(2)", b.compiler.count(2), 2);
            check.due("f calls h", b.compiler.calls(f, h), 1);
            check.due("h calls f", b.compiler.calls(h, f), 0);
        }
        Builder ring = new Builder();
        int x = ring.variable(0);
        for (int i = 0; i < 8; i++) {
            ring.function();
        }
        for (int i = 6; i >= 0; i--) {
            check.due(i + " calls " + (i + 1), ring.set(i, 0, ring.call(i + 1, x, x)), 1);
        }
        check.due("the dearest", ring.cost(0), 36);
        for (int i = 0; i < 8; i++) {
            check.due("7 calls " + i, ring.doIf(7, ring.call(i, x, x)), -1);
        }
    }

    private static void noCircles(Check check) {
        Builder b = new Builder();
        int x = b.variable(0);
        int f = b.function();
        int g = b.function();
        int h = b.function();
        int k = b.function();
        int callK = b.call(k, x, x);
        check.due("g calls k", b.set(g, 0, callK), 1);
        check.due("h calls k", b.set(h, 0, callK), 1);
        check.due("f calls g", b.set(f, 0, b.call(g, x, x)), 1);
        check.due("f calls h", b.set(f, 0, b.call(h, x, x)), 2);
        check.due("f calls k, with k's result", b.set(f, 0, b.call(k, callK, x)), 3);
        check.due("h calls g", b.doIf(h, b.call(g, x, x)), 2);
        check.due("the cost of f", b.cost(f), 39);
        int m = b.function();
        check.due("m calls g", b.doIf(m, b.call(g, x, x)), 1);
        check.due("and k", b.doIf(m, callK), 2);
        check.due("an expression that calls m", b.set(k, 0, b.power(b.call(m, x, x), 0)), -1);
        check.due("its statements", b.compiler.count(2), 8);
    }
}
