import java.math.BigInteger;
import java.util.ArrayList;
import java.util.HashMap;
import java.util.HashSet;
import java.util.List;
import java.util.Map;
import java.util.Set;

/**
 * The document said again in another way, to be compared with the program: costs and calls by their
 * definitions at every question, derivatives by numbers that carry their derivative along, and a
 * call's derivative by the two derivatives of its function.
 */
final class Model {
    private record Expression(int kind, int a, int b, int c) {
    }

    private record Statement(int kind, int a, int b) {
    }

    private record Function(int of, int by, int order, List<Statement> statements) {
    }

    /** A statement with the blocks within it; other is what an ELSE leads to. */
    private record Node(Statement statement, List<Node> block, List<Node> other) {
    }

    /** What a function has when it runs; each number is a row of 1, 2 or 4 longs, by the order. */
    private static final class Store {
        final long[][] variables = new long[6][];
        final long[][][] arrays = new long[2][4][];

        Store(long[] x, long[] y) {
            for (int i = 0; i < 6; i++) {
                variables[i] = new long[x.length];
            }
            for (int i = 0; i < 8; i++) {
                arrays[i / 4][i % 4] = new long[x.length];
            }
            variables[0] = x;
            variables[1] = y;
        }
    }

    private final List<Expression> expressions = new ArrayList<>();
    private final List<Function> functions = new ArrayList<>();

    int expression(int kind, int a, int b, int c) {
        boolean sound = kind >= 0 && kind <= 11 && expressions.size() < 80;
        if (kind == 1) {
            sound &= a >= 0 && a <= 5;
        }
        if (kind >= 2) {
            sound &= isExpression(a);
        }
        if (hasTwo(kind)) {
            sound &= isExpression(b);
        }
        if (kind == 6) {
            sound &= b >= 0 && b <= 3;
        }
        if (kind == 10) {
            sound &= b == 0 || b == 1;
        }
        if (kind == 11) {
            sound &= isOwn(c);
        }
        if (!sound) {
            return -1;
        }
        expressions.add(new Expression(kind, a, b, c));
        return expressions.size() - 1;
    }

    int function() {
        return add(new Function(-1, -1, 0, new ArrayList<>()));
    }

    private int add(Function made) {
        if (functions.size() >= 8) {
            return -1;
        }
        functions.add(made);
        return functions.size() - 1;
    }

    int statement(int function, int kind, int a, int b) {
        if (!isOwn(function) || kind < 0 || kind > 5) {
            return -1;
        }
        List<Statement> statements = functions.get(function).statements();
        boolean sound = statements.size() < 12;
        if (kind == 0) {
            sound &= a >= 0 && a < 6;
        }
        if (kind == 1) {
            sound &= a >= 0 && a < 2;
        }
        if (kind <= 2) {
            sound &= isExpression(b);
        }
        if (kind == 4) {
            sound &= b >= 1 && b <= 5;
        }
        List<Integer> open = open(statements);
        int inner = open.isEmpty() ? -1 : open.get(open.size() - 1);
        if (kind == 3) {
            sound &= inner == 2;
        }
        if (kind == 5) {
            sound &= inner != -1;
        }
        if (!sound) {
            return -1;
        }
        statements.add(new Statement(kind, a, b));
        if (!isInOrder()) {
            statements.remove(statements.size() - 1);
            return -1;
        }
        return statements.size();
    }

    /** The kinds of what lacks its END, the outermost first; an ELSE stands for its IF. */
    private static List<Integer> open(List<Statement> statements) {
        List<Integer> open = new ArrayList<>();
        for (Statement statement : statements) {
            if (statement.kind() == 3 || statement.kind() == 5) {
                open.remove(open.size() - 1);
            }
            if (statement.kind() >= 2 && statement.kind() <= 4) {
                open.add(statement.kind());
            }
        }
        return open;
    }

    private boolean isInOrder() {
        for (int i = 0; i < functions.size(); i++) {
            if (isOwn(i) && callees(i).contains(i)) {
                return false;
            }
        }
        for (int i = 0; i < functions.size(); i++) {
            if (isOwn(i) && costOf(i).compareTo(BigInteger.valueOf(40)) > 0) {
                return false;
            }
        }
        return true;
    }

    int derive(int function, int by) {
        if (!isFunction(function) || by < 0 || by > 1 || functions.get(function).order() > 1) {
            return -1;
        }
        return add(new Function(function, by, functions.get(function).order() + 1, List.of()));
    }

    long run(int function, long x, long y) {
        if (!isFunction(function)) {
            return DerivativeCompiler.NONE;
        }
        List<Integer> directions = new ArrayList<>();
        int own = function;
        while (functions.get(own).order() > 0) {
            directions.add(0, functions.get(own).by());
            own = functions.get(own).of();
        }
        long[] result = runWith(own, seed(x, 0, directions), seed(y, 1, directions));
        return result[result.length - 1];
    }

    /** A number with its derivatives: the derivative by the last direction is the second half of the row. */
    private static long[] seed(long value, int variable, List<Integer> directions) {
        long[] row = {value};
        for (int direction : directions) {
            long[] slope = new long[row.length];
            slope[0] = direction == variable ? 1 : 0;
            row = join(row, slope);
        }
        return row;
    }

    long gradient(int function, int by, long x, long y) {
        if (!isOwn(function) || by < 0 || by > 1) {
            return DerivativeCompiler.NONE;
        }
        return runWith(function, seed(x, 0, List.of(by)), seed(y, 1, List.of(by)))[1];
    }

    int cost(int function) {
        return isOwn(function) ? costOf(function).intValueExact() : -1;
    }

    int order(int function) {
        return isFunction(function) ? functions.get(function).order() : -1;
    }

    int calls(int function, int other) {
        if (!isFunction(function) || !isFunction(other)) {
            return -1;
        }
        int own = function;
        while (functions.get(own).order() > 0) {
            own = functions.get(own).of();
        }
        return callees(own).contains(other) ? 1 : 0;
    }

    int count(int what) {
        int statements = 0;
        int open = 0;
        for (Function function : functions) {
            statements += function.statements().size();
            open += open(function.statements()).size();
        }
        return switch (what) {
            case 0 -> expressions.size();
            case 1 -> functions.size();
            case 2 -> statements;
            case 3 -> open;
            default -> -1;
        };
    }

    private static boolean hasTwo(int kind) {
        return kind >= 2 && kind <= 4 || kind == 8 || kind == 9 || kind == 11;
    }

    private boolean isExpression(int number) {
        return number >= 0 && number < expressions.size();
    }

    private boolean isFunction(int number) {
        return number >= 0 && number < functions.size();
    }

    private boolean isOwn(int number) {
        return isFunction(number) && functions.get(number).order() == 0;
    }

    private Set<Integer> callees(int function) {
        Set<Integer> found = new HashSet<>();
        collectCallees(function, found);
        return found;
    }

    private void collectCallees(int function, Set<Integer> found) {
        Set<Integer> seen = new HashSet<>();
        for (Statement statement : functions.get(function).statements()) {
            if (statement.kind() <= 2) {
                collectCalleesOfExpression(statement.b(), found, seen);
            }
        }
    }

    private void collectCalleesOfExpression(int number, Set<Integer> found, Set<Integer> seen) {
        if (!seen.add(number)) {
            return;
        }
        Expression e = expressions.get(number);
        if (e.kind() >= 2) {
            collectCalleesOfExpression(e.a(), found, seen);
        }
        if (hasTwo(e.kind())) {
            collectCalleesOfExpression(e.b(), found, seen);
        }
        if (e.kind() == 11 && found.add(e.c())) {
            collectCallees(e.c(), found);
        }
    }

    private BigInteger costOf(int function) {
        return costOf(function, new HashMap<>());
    }

    private BigInteger costOf(int function, Map<Integer, BigInteger> known) {
        return BigInteger.ONE.add(costOfBlock(tree(function), known));
    }

    private BigInteger costOfBlock(List<Node> block, Map<Integer, BigInteger> known) {
        BigInteger sum = BigInteger.ZERO;
        for (Node node : block) {
            sum = sum.add(BigInteger.ONE);
            if (node.statement().kind() <= 2) {
                sum = sum.add(costOfExpression(node.statement().b(), known));
            }
            BigInteger within = costOfBlock(node.block(), known).add(costOfBlock(node.other(), known));
            int times = node.statement().kind() == 4 ? node.statement().b() : 1;
            sum = sum.add(within.multiply(BigInteger.valueOf(times)));
        }
        return sum;
    }

    private BigInteger costOfExpression(int number, Map<Integer, BigInteger> known) {
        if (known.containsKey(number)) {
            return known.get(number);
        }
        Expression e = expressions.get(number);
        BigInteger parts = BigInteger.ZERO;
        if (e.kind() >= 2) {
            parts = parts.add(costOfExpression(e.a(), known));
        }
        if (hasTwo(e.kind())) {
            parts = parts.add(costOfExpression(e.b(), known));
        }
        if (e.kind() >= 7 && e.kind() <= 9) {
            parts = parts.add(parts);
        }
        if (e.kind() == 6 && e.b() > 1) {
            parts = parts.multiply(BigInteger.valueOf(e.b()));
        }
        if (e.kind() == 11) {
            parts = parts.add(costOf(e.c(), known));
        }
        BigInteger sum = parts.add(BigInteger.ONE);
        known.put(number, sum);
        return sum;
    }

    private List<Node> tree(int function) {
        List<Node> top = new ArrayList<>();
        List<List<Node>> open = new ArrayList<>();
        List<Node> owners = new ArrayList<>();
        open.add(top);
        for (Statement statement : functions.get(function).statements()) {
            int last = open.size() - 1;
            if (statement.kind() == 5) {
                open.remove(last);
                owners.remove(last - 1);
            } else if (statement.kind() == 3) {
                open.set(last, owners.get(last - 1).other());
            } else {
                Node node = new Node(statement, new ArrayList<>(), new ArrayList<>());
                open.get(last).add(node);
                if (statement.kind() == 2 || statement.kind() == 4) {
                    open.add(node.block());
                    owners.add(node);
                }
            }
        }
        return top;
    }

    private long[] runWith(int function, long[] x, long[] y) {
        Store store = new Store(x, y);
        runBlock(tree(function), store);
        return store.variables[0];
    }

    private void runBlock(List<Node> block, Store store) {
        for (Node node : block) {
            Statement s = node.statement();
            switch (s.kind()) {
                case 0 -> store.variables[s.a()] = value(s.b(), store);
                case 1 -> store.arrays[s.a()][place(store.variables[5])] = value(s.b(), store);
                case 2 -> runBlock(value(s.b(), store)[0] > 0 ? node.block() : node.other(), store);
                default -> {
                    for (int i = 0; i < s.b(); i++) {
                        runBlock(node.block(), store);
                    }
                }
            }
        }
    }

    private static int place(long[] row) {
        return (int) Math.floorMod(row[0], 4L);
    }

    private long[] value(int number, Store store) {
        Expression e = expressions.get(number);
        long[] a = e.kind() >= 2 ? value(e.a(), store) : null;
        long[] b = hasTwo(e.kind()) ? value(e.b(), store) : null;
        return switch (e.kind()) {
            case 0 -> constant(e.a(), store.variables[0].length);
            case 1 -> store.variables[e.a()];
            case 2 -> sum(a, b, 1);
            case 3 -> sum(a, b, -1);
            case 4 -> product(a, b);
            case 5 -> scaled(a, -1);
            case 6 -> power(a, e.b());
            case 7 -> scaled(a, Long.signum(a[0]));
            case 8 -> b[0] < a[0] ? b : a;
            case 9 -> b[0] > a[0] ? b : a;
            case 10 -> store.arrays[e.b()][place(a)];
            default -> call(e.c(), a, b);
        };
    }

    private static long[] constant(long value, int width) {
        long[] row = new long[width];
        row[0] = value;
        return row;
    }

    private static long[] sum(long[] a, long[] b, long sign) {
        long[] row = a.clone();
        for (int i = 0; i < row.length; i++) {
            row[i] += sign * b[i];
        }
        return row;
    }

    private static long[] scaled(long[] a, long by) {
        return sum(new long[a.length], a, by);
    }

    private static long[] product(long[] a, long[] b) {
        if (a.length == 1) {
            return new long[] {a[0] * b[0]};
        }
        long[] slope = sum(product(slope(a), plain(b)), product(plain(a), slope(b)), 1);
        return join(product(plain(a), plain(b)), slope);
    }

    private static long[] power(long[] a, int b) {
        if (b == 0) {
            return constant(1, a.length);
        }
        if (a.length == 1) {
            return product(power(a, b - 1), a);
        }
        return join(power(plain(a), b), product(scaled(power(plain(a), b - 1), b), slope(a)));
    }

    private long[] call(int function, long[] a, long[] b) {
        if (a.length == 1) {
            return runWith(function, a, b);
        }
        long[] one = constant(1, a.length / 2);
        long[] none = new long[a.length / 2];
        long[] byX = slope(runWith(function, join(plain(a), one), join(plain(b), none)));
        long[] byY = slope(runWith(function, join(plain(a), none), join(plain(b), one)));
        long[] slope = sum(product(byX, slope(a)), product(byY, slope(b)), 1);
        return join(runWith(function, plain(a), plain(b)), slope);
    }

    private static long[] plain(long[] row) {
        return java.util.Arrays.copyOf(row, row.length / 2);
    }

    private static long[] slope(long[] row) {
        return java.util.Arrays.copyOfRange(row, row.length / 2, row.length);
    }

    private static long[] join(long[] plain, long[] slope) {
        long[] row = java.util.Arrays.copyOf(plain, plain.length * 2);
        System.arraycopy(slope, 0, row, plain.length, slope.length);
        return row;
    }
}
