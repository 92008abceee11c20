import java.util.ArrayList;
import java.util.List;

/**
 * Runs of calls, compared with a model that never reduces a fraction: it keeps P / Q as the document's
 * formulas give them, tells the same by cross products, and judges lowest terms by their definition
 * (the same fraction, a leading 1 below, and a resultant that is not 0) instead of by Euclid's algorithm.
 */
public final class ModelTest {
    private static final int RUNS = 500;
    private static final int CALLS_PER_RUN = 512;
    private static final int FULL = -2;
    private static final int TOO_FEW = -3;
    private static final int NONE = -4;
    private static final int BAD_ARG = -1;
    private static final int CELLS = 60;

    private static final class Fraction {
        final int[] above;
        final int[] below;
        final int height;

        Fraction(int[] above, int[] below, int height) {
            this.above = above;
            this.below = below;
            this.height = height;
        }
    }

    private static int wrong = 0;
    private static long seed = 20261115L;

    private final RationalFormulas real = new RationalFormulas();
    private final List<Fraction> stack = new ArrayList<>();
    private final StringBuilder calls = new StringBuilder();

    public static void main(String[] args) {
        for (int run = 0; run < RUNS && wrong == 0; run++) {
            new ModelTest().run();
        }
        System.out.println(wrong == 0 ? "all runs agree with the model" : wrong + " answers differ from the model");
        if (wrong != 0) {
            System.exit(1);
        }
    }

    /** A fixed sequence, so that every run of the test makes the same calls. */
    private static int pick(int bound) {
        seed = seed * 6364136223846793005L + 1442695040888963407L;
        return (int) ((seed >>> 33) % bound);
    }

    private void due(String call, int got, int want) {
        if (got != want) {
            wrong++;
            System.out.println("after" + calls + ": " + call + " answered " + got + ", due is " + want);
        }
    }

    private void run() {
        // An object is promised for 512 calls alone; a full look at the top costs about 60.
        int used = 0;
        while (used + 70 < CALLS_PER_RUN && wrong == 0) {
            change();
            used++;
            due("depth", real.depth(), stack.size());
            used++;
            if (pick(8) == 0) {
                used += look();
            }
        }
    }

    private void change() {
        switch (pick(12)) {
            case 0: case 1: pushVariable(); break;
            // Few constants, so that common divisors come up often.
            case 2: pushConstant(pick(3)); break;
            case 3: pushConstant(pick(8) == 0 ? pick(300) - 100 : pick(101)); break;
            case 4: case 5: case 6: case 7: apply(pick(20) == 0 ? pick(20) - 10 : pick(4)); break;
            case 8: power(pick(8) == 0 ? pick(20) - 10 : pick(4)); break;
            case 9: derive(); break;
            case 10: dupOrDrop(); break;
            default: swap(); break;
        }
    }

    private void pushVariable() {
        int want = stack.size() >= 6 ? FULL : stack.size() + 1;
        due("variable", real.variable(), want);
        calls.append(" variable");
        if (want > 0) {
            stack.add(new Fraction(poly(0, 1), poly(1, 0), 1));
        }
    }

    private void pushConstant(int c) {
        int want = c < 0 || c > 100 ? BAD_ARG : stack.size() >= 6 ? FULL : stack.size() + 1;
        due("constant " + c, real.constant(c), want);
        calls.append(" constant(" + c + ")");
        if (want > 0) {
            stack.add(new Fraction(poly(c, 0), poly(1, 0), 0));
        }
    }

    private void apply(int op) {
        int want = wantApply(op);
        due("apply " + op, real.apply(op), want);
        calls.append(" apply(" + op + ")");
        if (want > 0) {
            Fraction g = stack.remove(stack.size() - 1);
            Fraction f = stack.remove(stack.size() - 1);
            stack.add(combine(op, f, g));
        }
    }

    private int wantApply(int op) {
        if (op < 0 || op > 3) {
            return BAD_ARG;
        }
        if (stack.size() < 2) {
            return TOO_FEW;
        }
        if (top().height + second().height > 12) {
            return FULL;
        }
        return op == 3 && degree(top().above) < 0 ? NONE : stack.size() - 1;
    }

    private static Fraction combine(int op, Fraction f, Fraction g) {
        int height = f.height + g.height;
        if (op == 2) {
            return new Fraction(times(f.above, g.above), times(f.below, g.below), height);
        }
        if (op == 3) {
            return new Fraction(times(f.above, g.below), times(f.below, g.above), height);
        }
        int[] one = times(f.above, g.below);
        int[] other = times(g.above, f.below);
        return new Fraction(plus(one, other, op == 0 ? 1 : -1), times(f.below, g.below), height);
    }

    private void power(int n) {
        int want = n < 0 || n > 3 ? BAD_ARG
                : stack.isEmpty() ? TOO_FEW
                : n * top().height > 12 ? FULL
                : stack.size();
        due("power " + n, real.power(n), want);
        calls.append(" power(" + n + ")");
        if (want > 0) {
            Fraction f = stack.remove(stack.size() - 1);
            int[] above = poly(1, 0);
            int[] below = poly(1, 0);
            for (int i = 0; i < n; i++) {
                above = times(above, f.above);
                below = times(below, f.below);
            }
            stack.add(new Fraction(above, below, n * f.height));
        }
    }

    private void derive() {
        int want = stack.isEmpty() ? TOO_FEW : 2 * top().height > 12 ? FULL : stack.size();
        due("derive", real.derive(), want);
        calls.append(" derive");
        if (want > 0) {
            stack.add(derivative(stack.remove(stack.size() - 1)));
        }
    }

    private void dupOrDrop() {
        if (pick(2) == 0) {
            int want = stack.isEmpty() ? TOO_FEW : stack.size() >= 6 ? FULL : stack.size() + 1;
            due("dup", real.dup(), want);
            calls.append(" dup");
            if (want > 0) {
                stack.add(top());
            }
        } else {
            int want = stack.isEmpty() ? TOO_FEW : stack.size() - 1;
            due("drop", real.drop(), want);
            calls.append(" drop");
            if (want >= 0) {
                stack.remove(stack.size() - 1);
            }
        }
    }

    private void swap() {
        int want = stack.size() < 2 ? TOO_FEW : stack.size();
        due("swap", real.swap(), want);
        calls.append(" swap");
        if (want > 0) {
            stack.add(stack.remove(stack.size() - 2));
        }
    }

    /** Compares all that can be asked of the top; answers how many calls that took. */
    private int look() {
        if (stack.isEmpty()) {
            due("height", real.height(), NONE);
            return 1;
        }
        boolean alike = stack.size() >= 2 && isSame(top(), second());
        due("same", real.same() ? 1 : 0, alike ? 1 : 0);
        due("height", real.height(), top().height);
        Fraction lowest = new Fraction(poly(0, 0), poly(0, 0), 0);
        for (int k = 0; k <= 24; k++) {
            lowest.above[k] = real.coefficient(k, 0);
            lowest.below[k] = real.coefficient(k, 1);
        }
        lookAtTerms(lowest);
        lookAtValues(lowest);
        return 62;
    }

    private void lookAtTerms(Fraction lowest) {
        due("degreeAbove", real.degreeAbove(), Math.max(0, degree(lowest.above)));
        due("degreeBelow", real.degreeBelow(), degree(lowest.below));
        due("lowest terms are the same", isSame(lowest, top()) ? 1 : 0, 1);
        due("lowest terms have a leading 1", lowest.below[degree(lowest.below)], 1);
        boolean apart = degree(lowest.above) < 0
                ? degree(lowest.below) == 0
                : isResultantNotZero(lowest.above, lowest.below);
        due("lowest terms are apart", apart ? 1 : 0, 1);
    }

    private void lookAtValues(Fraction lowest) {
        int zeros = 0;
        int poles = 0;
        for (int a = 0; a <= 100; a++) {
            int value = valueAt(lowest, a);
            zeros += value == 0 ? 1 : 0;
            poles += value == NONE ? 1 : 0;
        }
        due("zeros", real.zeros(), zeros);
        due("poles", real.poles(), poles);
        // The derivative has a pole where the formula has one: no pole's order is a multiple of 101 here.
        Fraction derived = derivative(lowest);
        for (int i = 0; i < 3; i++) {
            int a = pick(101);
            due("value " + a, real.value(a), valueAt(lowest, a));
            due("slope " + a, real.slope(a), valueAt(derived, a));
        }
    }

    private Fraction top() {
        return stack.get(stack.size() - 1);
    }

    private Fraction second() {
        return stack.get(stack.size() - 2);
    }

    private static boolean isSame(Fraction f, Fraction g) {
        return degree(plus(times(f.above, g.below), times(g.above, f.below), -1)) < 0;
    }

    private static Fraction derivative(Fraction f) {
        int[] one = times(derived(f.above), f.below);
        int[] other = times(f.above, derived(f.below));
        return new Fraction(plus(one, other, -1), times(f.below, f.below), 2 * f.height);
    }

    private static int valueAt(Fraction f, int a) {
        int bottom = at(f.below, a);
        if (bottom == 0) {
            return NONE;
        }
        int value = 0;
        while (value * bottom % 101 != at(f.above, a)) {
            value++;
        }
        return value;
    }

    private static int[] poly(int c0, int c1) {
        int[] p = new int[CELLS];
        p[0] = c0;
        p[1] = c1;
        return p;
    }

    private static int degree(int[] p) {
        int k = CELLS - 1;
        while (k >= 0 && p[k] == 0) {
            k--;
        }
        return k;
    }

    private static int[] plus(int[] p, int[] q, int sign) {
        int[] sum = new int[CELLS];
        for (int k = 0; k < CELLS; k++) {
            sum[k] = Math.floorMod(p[k] + sign * q[k], 101);
        }
        return sum;
    }

    private static int[] times(int[] p, int[] q) {
        int[] product = new int[CELLS];
        for (int i = 0; i <= degree(p); i++) {
            for (int j = 0; j <= degree(q); j++) {
                product[i + j] = (product[i + j] + p[i] * q[j]) % 101;
            }
        }
        return product;
    }

    private static int[] derived(int[] p) {
        int[] d = new int[CELLS];
        for (int k = 1; k < CELLS; k++) {
            d[k - 1] = k * p[k] % 101;
        }
        return d;
    }

    private static int at(int[] p, int a) {
        int sum = 0;
        int power = 1;
        for (int k = 0; k < CELLS; k++) {
            sum = (sum + p[k] * power) % 101;
            power = power * a % 101;
        }
        return sum;
    }

    /** Whether Sylvester's matrix of the two polynomials, neither of them 0, has full rank. */
    private static boolean isResultantNotZero(int[] p, int[] q) {
        int m = degree(p);
        int n = degree(q);
        int[][] rows = new int[m + n][m + n];
        for (int r = 0; r < n; r++) {
            System.arraycopy(p, 0, rows[r], r, m + 1);
        }
        for (int r = 0; r < m; r++) {
            System.arraycopy(q, 0, rows[n + r], r, n + 1);
        }
        return hasFullRank(rows);
    }

    private static boolean hasFullRank(int[][] rows) {
        int size = rows.length;
        for (int column = 0; column < size; column++) {
            int pivot = column;
            while (pivot < size && rows[pivot][column] == 0) {
                pivot++;
            }
            if (pivot == size) {
                return false;
            }
            int[] row = rows[pivot];
            rows[pivot] = rows[column];
            rows[column] = row;
            for (int r = column + 1; r < size; r++) {
                int factor = rows[r][column];
                for (int k = 0; k < size; k++) {
                    rows[r][k] = Math.floorMod(rows[r][k] * row[column] - factor * row[k], 101);
                }
            }
        }
        return true;
    }
}
