import java.util.Arrays;

/** Small programs, programs that work out their derivatives, and gradients worked out backwards. */
public final class DerivativeCompiler {
    public static final int REFUSED = -1;
    public static final long NONE = -1000000000000000000L;

    private static final int EXPRESSIONS = 80;
    private static final int FUNCTIONS = 8;
    private static final int STATEMENTS = 12;
    private static final int VARIABLES = 6;
    private static final int ARRAYS = 2;
    private static final int PLACES = 4;
    private static final int POWERS = 4;
    private static final int MOST_REPEATS = 5;
    private static final int DIRECTIONS = 2;
    private static final int HIGHEST_ORDER = 2;
    private static final int DEAREST = 40;

    private final Program program;
    private final Costs costs;
    /** The own function that a function goes back to: itself, if it is own. */
    private final int[] roots;
    /** The function that a derived one is of, and with respect to what. */
    private final int[] sources;
    private final int[] directions;
    private final int[] orders;
    private int functions;

    public DerivativeCompiler() {
        program = new Program();
        costs = new Costs();
        roots = new int[FUNCTIONS];
        sources = new int[FUNCTIONS];
        directions = new int[FUNCTIONS];
        orders = new int[FUNCTIONS];
        functions = 0;
    }

    public int expression(int kind, int a, int b, int c) {
        if (program.expressions.isFull() || !isSoundExpression(kind, a, b, c)) {
            return REFUSED;
        }
        int number = program.expressions.add(kind, a, b, c);
        costs.addExpression(number, kind, a, b, c);
        return number;
    }

    public int function() {
        if (functions >= FUNCTIONS) {
            return REFUSED;
        }
        int number = functions;
        functions++;
        roots[number] = number;
        program.bodies[number] = new Body();
        costs.addFunction(number);
        return number;
    }

    public int statement(int function, int kind, int a, int b) {
        if (!isOwn(function) || !isSoundStatement(kind, a, b)) {
            return REFUSED;
        }
        Body body = program.bodies[function];
        if (body == null || body.isFull() || !body.hasRoomFor(kind)) {
            return REFUSED;
        }
        if (!chargeFor(function, kind, b, body.timesDone())) {
            return REFUSED;
        }
        body.add(kind, a, b);
        return body.size;
    }

    public int derive(int function, int by) {
        if (!isMade(function) || !isBelow(by, DIRECTIONS)) {
            return REFUSED;
        }
        if (orders[function] >= HIGHEST_ORDER || functions >= FUNCTIONS) {
            return REFUSED;
        }
        int number = functions;
        functions++;
        roots[number] = roots[function];
        sources[number] = function;
        directions[number] = by;
        orders[number] = orders[function] + 1;
        return number;
    }

    public long run(int function, long x, long y) {
        if (!isMade(function)) {
            return NONE;
        }
        int result = program.follow(roots[function], x, y);
        int by = directions[function];
        switch (orders[function]) {
            case 0:
                return program.trace.values[result];
            case 1:
                return program.trace.slope(result, by);
            default:
                return program.trace.slopeOfSlope(result, directions[sources[function]], by);
        }
    }

    public long gradient(int function, int by, long x, long y) {
        if (!isOwn(function) || !isBelow(by, DIRECTIONS)) {
            return NONE;
        }
        int result = program.follow(function, x, y);
        return program.trace.slopeBackwards(result, by);
    }

    public int cost(int function) {
        return isOwn(function) ? costs.totals[function] : REFUSED;
    }

    public int order(int function) {
        return isMade(function) ? orders[function] : REFUSED;
    }

    public int calls(int function, int other) {
        if (!isMade(function) || !isMade(other)) {
            return REFUSED;
        }
        return costs.doesCall(roots[function], other) ? 1 : 0;
    }

    public int count(int what) {
        switch (what) {
            case 0:
                return program.expressions.made;
            case 1:
                return functions;
            case 2:
                return program.statementsInAll();
            case 3:
                return program.openInAll();
            default:
                return REFUSED;
        }
    }

    private static boolean isBelow(int number, int bound) {
        return number >= 0 && number < bound;
    }

    private boolean isMade(int function) {
        return isBelow(function, functions);
    }

    private boolean isOwn(int function) {
        return isMade(function) && orders[function] == 0;
    }

    private boolean isSoundExpression(int kind, int a, int b, int c) {
        if (Expressions.hasLeft(kind) && !program.expressions.has(a)) {
            return false;
        }
        if (Expressions.hasRight(kind) && !program.expressions.has(b)) {
            return false;
        }
        switch (kind) {
            case Expressions.VARIABLE:
                return isBelow(a, VARIABLES);
            case Expressions.POWER:
                return isBelow(b, POWERS);
            case Expressions.ELEMENT:
                return isBelow(b, ARRAYS);
            case Expressions.CALL:
                return isOwn(c);
            default:
                return isBelow(kind, Expressions.KINDS);
        }
    }

    private boolean isSoundStatement(int kind, int a, int b) {
        switch (kind) {
            case Body.SET_VARIABLE:
                return isBelow(a, VARIABLES) && program.expressions.has(b);
            case Body.SET_ELEMENT:
                return isBelow(a, ARRAYS) && program.expressions.has(b);
            case Body.IF:
                return program.expressions.has(b);
            case Body.REPEAT:
                return b >= 1 && b <= MOST_REPEATS;
            default:
                return kind == Body.ELSE || kind == Body.END;
        }
    }

    /** Charges the function for a new statement, unless that closes a circle of calls or costs too much. */
    private boolean chargeFor(int function, int kind, int b, int times) {
        switch (kind) {
            case Body.ELSE:
            case Body.END:
                return true;
            case Body.REPEAT:
                return costs.charge(function, Expressions.ABSENT, times);
            default:
                return costs.charge(function, b, times);
        }
    }

    /** The expressions made so far, each naming only earlier ones. */
    private static final class Expressions {
        static final int CONSTANT = 0;
        static final int VARIABLE = 1;
        static final int SUM = 2;
        static final int DIFFERENCE = 3;
        static final int PRODUCT = 4;
        static final int NEGATIVE = 5;
        static final int POWER = 6;
        static final int SIZE = 7;
        static final int LESSER = 8;
        static final int GREATER = 9;
        static final int ELEMENT = 10;
        static final int CALL = 11;
        static final int KINDS = 12;
        static final int ABSENT = -1;

        private final int[] kinds = new int[EXPRESSIONS];
        private final int[] lefts = new int[EXPRESSIONS];
        private final int[] rights = new int[EXPRESSIONS];
        private final int[] callees = new int[EXPRESSIONS];
        private int made;

        /** Whether a of this kind is an expression. */
        static boolean hasLeft(int kind) {
            return kind >= SUM && kind <= CALL;
        }

        /** Whether b of this kind is an expression. */
        static boolean hasRight(int kind) {
            switch (kind) {
                case SUM:
                case DIFFERENCE:
                case PRODUCT:
                case LESSER:
                case GREATER:
                case CALL:
                    return true;
                default:
                    return false;
            }
        }

        boolean has(int number) {
            return isBelow(number, made);
        }

        boolean isFull() {
            return made >= EXPRESSIONS;
        }

        int add(int kind, int a, int b, int c) {
            int number = made;
            kinds[number] = kind;
            lefts[number] = a;
            rights[number] = b;
            callees[number] = c;
            made++;
            return number;
        }
    }

    /** The statements of one own function. */
    private static final class Body {
        static final int SET_VARIABLE = 0;
        static final int SET_ELEMENT = 1;
        static final int IF = 2;
        static final int ELSE = 3;
        static final int REPEAT = 4;
        static final int END = 5;

        private final int[] kinds = new int[STATEMENTS];
        private final int[] targets = new int[STATEMENTS];
        private final int[] operands = new int[STATEMENTS];
        /** Where the ELSE or END of an IF, ELSE or REPEAT stands, or behind all statements while it lacks. */
        private final int[] closes = new int[STATEMENTS];
        /** The IFs, ELSEs and REPEATs that lack their END, the outermost first. */
        private final int[] opens = new int[STATEMENTS];
        /** How many times a statement is done that is within so many of these. */
        private final int[] times = new int[STATEMENTS + 1];
        private int size;
        private int depth;

        Body() {
            times[0] = 1;
        }

        boolean isFull() {
            return size >= STATEMENTS;
        }

        /** Whether an ELSE or END has something to belong to here. */
        boolean hasRoomFor(int kind) {
            switch (kind) {
                case ELSE:
                    return depth > 0 && kinds[opens[depth - 1]] == IF;
                case END:
                    return depth > 0;
                default:
                    return true;
            }
        }

        int timesDone() {
            return times[depth];
        }

        void add(int kind, int target, int operand) {
            int at = size;
            kinds[at] = kind;
            targets[at] = target;
            operands[at] = operand;
            closes[at] = STATEMENTS;
            size++;
            if (kind == ELSE || kind == END) {
                depth--;
                closes[opens[depth]] = at;
            }
            if (kind == IF || kind == ELSE || kind == REPEAT) {
                opens[depth] = at;
                times[depth + 1] = times[depth] * (kind == REPEAT ? operand : 1);
                depth++;
            }
        }

        int closeOf(int at) {
            return Math.min(closes[at], size);
        }

        int endOfIf(int at) {
            int close = closeOf(at);
            return close < size && kinds[close] == ELSE ? closeOf(close) : close;
        }
    }

    /**
     * What functions cost and whom they call. A call costs what its function does at the time, so it is
     * kept apart how often each function counts: then a function that grows raises its callers at once.
     */
    private static final class Costs {
        /** What costs so much is too dear everywhere: counting on would overflow. */
        private static final int CAP = 1000;

        /** The cost of an expression but for what the functions that it calls cost. */
        private final int[] plain = new int[EXPRESSIONS];
        /** How often an expression (row) counts the cost of a function that it calls itself. */
        private final int[] named = new int[EXPRESSIONS * FUNCTIONS];
        /** How often a function (row) counts the cost of another, through all calls; its own once. */
        private final int[] counted = new int[FUNCTIONS * FUNCTIONS];
        private final int[] totals = new int[FUNCTIONS];
        /** How often the statement that is being charged counts the cost of each function. */
        private final int[] added = new int[FUNCTIONS];

        void addFunction(int function) {
            counted[function * FUNCTIONS + function] = 1;
            totals[function] = 1;
        }

        void addExpression(int number, int kind, int a, int b, int c) {
            int factor = factorOf(kind, b);
            boolean left = Expressions.hasLeft(kind);
            boolean right = Expressions.hasRight(kind);
            int parts = (left ? plain[a] : 0) + (right ? plain[b] : 0);
            plain[number] = Math.min(CAP, 1 + factor * parts);
            for (int callee = 0; callee < FUNCTIONS; callee++) {
                int within = (left ? named[a * FUNCTIONS + callee] : 0)
                        + (right ? named[b * FUNCTIONS + callee] : 0);
                int here = kind == Expressions.CALL && callee == c ? 1 : 0;
                named[number * FUNCTIONS + callee] = Math.min(CAP, factor * within + here);
            }
        }

        private static int factorOf(int kind, int b) {
            switch (kind) {
                case Expressions.SIZE:
                case Expressions.LESSER:
                case Expressions.GREATER:
                    return 2;
                case Expressions.POWER:
                    return Math.max(1, b);
                default:
                    return 1;
            }
        }

        /** Adds a statement's cost and calls, or answers false and leaves all as it was. */
        boolean charge(int function, int expression, int times) {
            long price = times;
            Arrays.fill(added, 0);
            if (expression != Expressions.ABSENT) {
                price += (long) times * costOf(expression);
                workOutAdded(expression, times);
            }
            if (added[function] > 0 || isTooDear(function, price)) {
                return false;
            }
            for (int caller = 0; caller < FUNCTIONS; caller++) {
                int often = counted[caller * FUNCTIONS + function];
                totals[caller] += (int) (often * price);
                for (int callee = 0; callee < FUNCTIONS; callee++) {
                    counted[caller * FUNCTIONS + callee] += often * added[callee];
                }
            }
            return true;
        }

        private int costOf(int expression) {
            int sum = plain[expression];
            for (int callee = 0; callee < FUNCTIONS; callee++) {
                sum += named[expression * FUNCTIONS + callee] * totals[callee];
            }
            return sum;
        }

        private void workOutAdded(int expression, int times) {
            for (int between = 0; between < FUNCTIONS; between++) {
                int often = times * named[expression * FUNCTIONS + between];
                for (int callee = 0; callee < FUNCTIONS; callee++) {
                    added[callee] += often * counted[between * FUNCTIONS + callee];
                }
            }
        }

        private boolean isTooDear(int function, long price) {
            for (int caller = 0; caller < FUNCTIONS; caller++) {
                if (totals[caller] + counted[caller * FUNCTIONS + function] * price > DEAREST) {
                    return true;
                }
            }
            return false;
        }

        boolean doesCall(int function, int other) {
            return function != other && counted[function * FUNCTIONS + other] > 0;
        }
    }

    /** Expressions and bodies, and how they are run: by values alone, leaving a trace behind. */
    private static final class Program {
        private static final int PLACE_VARIABLE = 5;
        private static final int CELLS = VARIABLES + ARRAYS * PLACES;
        /** Each level within another costs at least 1, so no function that was let in comes this deep. */
        private static final int DEEPEST = DEAREST + 10;

        private final Expressions expressions = new Expressions();
        private final Body[] bodies = new Body[FUNCTIONS];
        private final Trace trace = new Trace();
        /** For each function that is under way, the steps that its variables and elements come from. */
        private final int[] cells = new int[FUNCTIONS * CELLS];

        /** Runs an own function; answers the step of the trace that is its result. */
        int follow(int function, long x, long y) {
            trace.begin(x, y);
            return enter(function, Trace.X, Trace.Y, 0, 0);
        }

        private int enter(int function, int x, int y, int level, int depth) {
            Body body = bodies[function];
            if (body == null || level >= FUNCTIONS) {
                return Trace.ZERO;
            }
            int frame = level * CELLS;
            Arrays.fill(cells, frame, frame + CELLS, Trace.ZERO);
            cells[frame] = x;
            cells[frame + 1] = y;
            doBlock(body, 0, body.size, level, depth);
            return cells[frame];
        }

        private void doBlock(Body body, int from, int to, int level, int depth) {
            if (depth > DEEPEST) {
                return;
            }
            int next = from;
            for (int at = from; at < to; at++) {
                if (at == next) {
                    next = doStatement(body, at, level, depth);
                }
            }
        }

        /** Does one statement with all that is within it; answers where the next one stands. */
        private int doStatement(Body body, int at, int level, int depth) {
            int target = body.targets[at];
            int operand = body.operands[at];
            switch (body.kinds[at]) {
                case Body.SET_VARIABLE:
                    cells[level * CELLS + target] = evaluate(operand, level, depth + 1);
                    return at + 1;
                case Body.SET_ELEMENT:
                    int place = cells[level * CELLS + PLACE_VARIABLE];
                    cells[elementCell(level, target, place)] = evaluate(operand, level, depth + 1);
                    return at + 1;
                case Body.IF:
                    return doIf(body, at, level, depth);
                case Body.REPEAT:
                    int end = body.closeOf(at);
                    for (int round = 0; round < operand; round++) {
                        doBlock(body, at + 1, end, level, depth + 1);
                    }
                    return end + 1;
                default:
                    return at + 1;
            }
        }

        private int doIf(Body body, int at, int level, int depth) {
            int close = body.closeOf(at);
            int end = body.endOfIf(at);
            int condition = evaluate(body.operands[at], level, depth + 1);
            if (trace.values[condition] > 0) {
                doBlock(body, at + 1, close, level, depth + 1);
            } else {
                doBlock(body, close + 1, end, level, depth + 1);
            }
            return end + 1;
        }

        private int elementCell(int level, int array, int place) {
            // the low bits of a negative value, too, are its remainder 0 .. 3
            int at = (int) (trace.values[place] & (PLACES - 1));
            return level * CELLS + VARIABLES + array * PLACES + at;
        }

        /** Answers the step of the trace that is the expression's value. */
        private int evaluate(int expression, int level, int depth) {
            if (depth > DEEPEST) {
                return Trace.ZERO;
            }
            int kind = expressions.kinds[expression];
            int a = expressions.lefts[expression];
            int b = expressions.rights[expression];
            int left = Expressions.hasLeft(kind) ? evaluate(a, level, depth + 1) : Trace.ZERO;
            int right = Expressions.hasRight(kind) ? evaluate(b, level, depth + 1) : Trace.ZERO;
            switch (kind) {
                case Expressions.CONSTANT:
                    return trace.constant(a);
                case Expressions.VARIABLE:
                    return cells[level * CELLS + a];
                case Expressions.POWER:
                    return trace.power(left, b);
                case Expressions.ELEMENT:
                    return cells[elementCell(level, b, left)];
                case Expressions.CALL:
                    return enter(expressions.callees[expression], left, right, level + 1, depth + 1);
                default:
                    return combine(kind, left, right);
            }
        }

        private int combine(int kind, int left, int right) {
            switch (kind) {
                case Expressions.SUM:
                    return trace.sum(left, right);
                case Expressions.DIFFERENCE:
                    return trace.difference(left, right);
                case Expressions.PRODUCT:
                    return trace.product(left, right);
                case Expressions.NEGATIVE:
                    return trace.difference(Trace.ZERO, left);
                case Expressions.SIZE:
                    return trace.magnitude(left);
                case Expressions.LESSER:
                    return trace.values[left] <= trace.values[right] ? left : right;
                case Expressions.GREATER:
                    return trace.values[left] >= trace.values[right] ? left : right;
                default:
                    return Trace.ZERO;
            }
        }

        int statementsInAll() {
            int sum = 0;
            for (int i = 0; i < FUNCTIONS; i++) {
                sum += bodies[i] == null ? 0 : bodies[i].size;
            }
            return sum;
        }

        int openInAll() {
            int sum = 0;
            for (int i = 0; i < FUNCTIONS; i++) {
                sum += bodies[i] == null ? 0 : bodies[i].depth;
            }
            return sum;
        }
    }

    /**
     * A run written down as a straight line of sums, differences and products. Branches, loops, places
     * and choices go by values alone, so they leave no step: derivatives need only these three.
     */
    private static final class Trace {
        static final int ZERO = 0;
        static final int X = 1;
        static final int Y = 2;

        private static final int LEAF = 0;
        private static final int SUM = 1;
        private static final int DIFFERENCE = 2;
        private static final int PRODUCT = 3;
        /** No expression leaves more steps than it costs, and three leaves are there before. */
        private static final int STEPS = DEAREST + 24;

        private final int[] kinds = new int[STEPS];
        private final int[] lefts = new int[STEPS];
        private final int[] rights = new int[STEPS];
        private final long[] values = new long[STEPS];
        private final long[] firsts = new long[STEPS];
        private final long[] seconds = new long[STEPS];
        private final long[] mixed = new long[STEPS];
        private final long[] shares = new long[STEPS];
        private int length;

        void begin(long x, long y) {
            length = 0;
            add(LEAF, ZERO, ZERO, 0);
            add(LEAF, ZERO, ZERO, x);
            add(LEAF, ZERO, ZERO, y);
        }

        private int add(int kind, int left, int right, long value) {
            if (length >= STEPS) {
                return ZERO;
            }
            int at = length;
            kinds[at] = kind;
            lefts[at] = left;
            rights[at] = right;
            values[at] = value;
            length++;
            return at;
        }

        int constant(long value) {
            return add(LEAF, ZERO, ZERO, value);
        }

        int sum(int left, int right) {
            return add(SUM, left, right, values[left] + values[right]);
        }

        int difference(int left, int right) {
            return add(DIFFERENCE, left, right, values[left] - values[right]);
        }

        int product(int left, int right) {
            return add(PRODUCT, left, right, values[left] * values[right]);
        }

        int power(int base, int exponent) {
            if (exponent == 0) {
                return constant(1);
            }
            int result = base;
            for (int i = 1; i < exponent; i++) {
                result = product(result, base);
            }
            return result;
        }

        int magnitude(int step) {
            if (values[step] == 0) {
                return ZERO;
            }
            return values[step] < 0 ? difference(ZERO, step) : step;
        }

        /** The derivative of a step with respect to x (0) or y (1). */
        long slope(int step, int by) {
            workOutSlopes(firsts, by);
            return firsts[step];
        }

        private void workOutSlopes(long[] slopes, int by) {
            for (int i = 0; i < length; i++) {
                slopes[i] = i == X + by ? 1 : slopeFromParts(slopes, i);
            }
        }

        /** A step's derivative from those of its parts, which stand before it in the row. */
        private long slopeFromParts(long[] slopes, int step) {
            int left = lefts[step];
            int right = rights[step];
            switch (kinds[step]) {
                case SUM:
                    return slopes[left] + slopes[right];
                case DIFFERENCE:
                    return slopes[left] - slopes[right];
                case PRODUCT:
                    return slopes[left] * values[right] + values[left] * slopes[right];
                default:
                    return 0;
            }
        }

        /** The derivative by the second direction of the derivative of a step by the first one. */
        long slopeOfSlope(int step, int by, int then) {
            workOutSlopes(firsts, by);
            workOutSlopes(seconds, then);
            for (int i = 0; i < length; i++) {
                mixed[i] = slopeFromParts(mixed, i);
                if (kinds[i] == PRODUCT) {
                    // of a product, each part's derivative meets the other's, too
                    mixed[i] += firsts[lefts[i]] * seconds[rights[i]] + seconds[lefts[i]] * firsts[rights[i]];
                }
            }
            return mixed[step];
        }

        /** The derivative of a step, worked out from it back to x (0) or y (1). */
        long slopeBackwards(int step, int by) {
            Arrays.fill(shares, 0);
            shares[step] = 1;
            for (int i = length - 1; i >= 0; i--) {
                int left = lefts[i];
                int right = rights[i];
                switch (kinds[i]) {
                    case SUM:
                        shares[left] += shares[i];
                        shares[right] += shares[i];
                        break;
                    case DIFFERENCE:
                        shares[left] += shares[i];
                        shares[right] -= shares[i];
                        break;
                    case PRODUCT:
                        shares[left] += shares[i] * values[right];
                        shares[right] += shares[i] * values[left];
                        break;
                    default:
                        break;
                }
            }
            return shares[X + by];
        }
    }
}
