import java.io.IOException;

/** Promise 8: cost. How costs are worked out is tested by TermsOfCostsTest. */
public final class CostTest {
    public static void main(String[] args) throws IOException {
        Sentences promise = new Sentences("Promise 8: cost");
        promise.test("The cost of an own function", CostTest::ownOnes);
        promise.test("The cost of an own function", CostTest::smallestAndLargest);
        promise.test("REFUSED for another one.", CostTest::derivedOnes);
        promise.test("REFUSED for another one.", CostTest::noFunction);
        promise.finish();
    }

    private static void ownOnes(Check check) {
        Builder b = new Builder();
        Ways.busy(b);
        check.due("cost(1)", b.cost(1), 1 + 2 + 4 + 3);
        check.due("cost(0)", b.cost(0), 1 + 1 + 5 + 10);
        check.due("cost(4)", b.cost(4), 1 + 1 + 2 * (2 + 4 + 2 + 3));
        check.due("cost(1) again", b.cost(1), 10);
    }

    private static void smallestAndLargest(Check check) {
        Builder b = new Builder();
        int dearest = b.costing(38);
        for (int f = 0; f < 8; f++) {
            b.function();
            check.due("the smallest of " + f, b.cost(f), 1);
        }
        for (int f = 0; f < 8; f++) {
            b.set(f, 0, dearest);
            check.due("the largest of " + f, b.cost(f), 40);
            check.due("more", b.repeat(f, 1), -1);
            check.due("the largest of " + f + " still", b.cost(f), 40);
        }
    }

    private static void derivedOnes(Check check) {
        for (int function : Ways.DERIVED) {
            Refusals.refused(check, "of derived " + function, Ways::busy, c -> c.cost(function));
        }
        Refusals.refused(check, "of a derived one without statements", b -> b.derive(b.function(), 0), c -> c.cost(1));
        Refusals.refused(check, "of the last one", Ways::fullOfFunctions, c -> c.cost(7));
    }

    private static void noFunction(Check check) {
        for (int function : Ways.NO_FUNCTIONS) {
            Refusals.refused(check, "of " + function, Ways::busy, c -> c.cost(function));
        }
        Refusals.refused(check, "in a new object", Ways::nothing, c -> c.cost(0));
        Refusals.refused(check, "of a ninth", Ways::fullOfOwnFunctions, c -> c.cost(8));
    }
}
