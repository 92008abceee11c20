/** A stack of formulas in one variable over the remainders of 101, each held as a fraction in lowest terms. */
public final class RationalFormulas {
    public static final int BAD_ARG = -1;
    public static final int FULL = -2;
    public static final int TOO_FEW = -3;
    public static final int NONE = -4;

    private static final int MODULUS = 101;
    private static final int MINUS_ONE = MODULUS - 1;
    private static final int CAPACITY = 6;
    private static final int MAX_HEIGHT = 12;
    private static final int MAX_POWER = 3;

    private static final int ADD = 0;
    private static final int SUBTRACT = 1;
    private static final int MULTIPLY = 2;
    private static final int DIVIDE = 3;

    // No degree is above the formula's height, and the derivative that slope looks at
    // has at most twice the greatest height: the degrees 0 to 24 are enough everywhere.
    private static final int WIDTH = 2 * MAX_HEIGHT + 1;
    private static final int STACK_CELLS = CAPACITY * WIDTH;
    // Each step of Euclid's algorithm but the first lowers the smaller degree.
    private static final int MAX_EUCLID_STEPS = 2 * WIDTH;

    private final int[] stackAbove = new int[STACK_CELLS];
    private final int[] stackBelow = new int[STACK_CELLS];
    private final int[] heights = new int[CAPACITY];
    private int count;

    private final int[] leftAbove = new int[WIDTH];
    private final int[] leftBelow = new int[WIDTH];
    private final int[] rightAbove = new int[WIDTH];
    private final int[] rightBelow = new int[WIDTH];
    private final int[] resultAbove = new int[WIDTH];
    private final int[] resultBelow = new int[WIDTH];
    private final int[] common = new int[WIDTH];
    private final int[] remainder = new int[WIDTH];
    private final int[] quotient = new int[WIDTH];

    public RationalFormulas() {
        count = 0;
    }

    public int variable() {
        if (count >= CAPACITY) {
            return FULL;
        }
        setToNumber(resultAbove, 0);
        resultAbove[1] = 1;
        setToNumber(resultBelow, 1);
        return pushResult(1);
    }

    public int constant(int c) {
        if (!isNumber(c)) {
            return BAD_ARG;
        }
        if (count >= CAPACITY) {
            return FULL;
        }
        setToNumber(resultAbove, c);
        setToNumber(resultBelow, 1);
        return pushResult(0);
    }

    public int apply(int op) {
        if (op < ADD || op > DIVIDE) {
            return BAD_ARG;
        }
        if (count < 2) {
            return TOO_FEW;
        }
        int newHeight = heights[count - 2] + heights[count - 1];
        if (newHeight > MAX_HEIGHT) {
            return FULL;
        }
        loadFraction(count - 2, leftAbove, leftBelow);
        loadFraction(count - 1, rightAbove, rightBelow);
        if (op == DIVIDE && isZero(rightAbove)) {
            return NONE;
        }
        combine(op);
        lowerResult();
        count = count - 2;
        return pushResult(newHeight);
    }

    public int power(int n) {
        if (n < 0 || n > MAX_POWER) {
            return BAD_ARG;
        }
        if (count < 1) {
            return TOO_FEW;
        }
        int newHeight = n * heights[count - 1];
        if (newHeight > MAX_HEIGHT) {
            return FULL;
        }
        loadFraction(count - 1, rightAbove, rightBelow);
        setToNumber(resultAbove, 1);
        setToNumber(resultBelow, 1);
        for (int i = 0; i < n; i++) {
            copy(resultAbove, leftAbove);
            copy(resultBelow, leftBelow);
            combine(MULTIPLY);
        }
        // A power of lowest terms is in lowest terms already.
        count = count - 1;
        return pushResult(newHeight);
    }

    public int derive() {
        if (count < 1) {
            return TOO_FEW;
        }
        int newHeight = 2 * heights[count - 1];
        if (newHeight > MAX_HEIGHT) {
            return FULL;
        }
        deriveTopIntoResult();
        count = count - 1;
        return pushResult(newHeight);
    }

    public int dup() {
        if (count < 1) {
            return TOO_FEW;
        }
        if (count >= CAPACITY) {
            return FULL;
        }
        loadFraction(count - 1, resultAbove, resultBelow);
        return pushResult(heights[count - 1]);
    }

    public int drop() {
        if (count < 1) {
            return TOO_FEW;
        }
        count = count - 1;
        return count;
    }

    public int swap() {
        if (count < 2) {
            return TOO_FEW;
        }
        int lowerHeight = heights[count - 2];
        int upperHeight = heights[count - 1];
        loadFraction(count - 2, leftAbove, leftBelow);
        loadFraction(count - 1, rightAbove, rightBelow);
        storeFraction(count - 2, rightAbove, rightBelow);
        storeFraction(count - 1, leftAbove, leftBelow);
        heights[count - 2] = upperHeight;
        heights[count - 1] = lowerHeight;
        return count;
    }

    public int depth() {
        return count;
    }

    public int height() {
        if (count < 1) {
            return NONE;
        }
        return heights[count - 1];
    }

    public int value(int a) {
        if (!isNumber(a)) {
            return BAD_ARG;
        }
        if (count < 1) {
            return NONE;
        }
        loadFraction(count - 1, resultAbove, resultBelow);
        return resultAt(a);
    }

    public int slope(int a) {
        if (!isNumber(a)) {
            return BAD_ARG;
        }
        if (count < 1) {
            return NONE;
        }
        deriveTopIntoResult();
        return resultAt(a);
    }

    public boolean same() {
        if (count < 2) {
            return false;
        }
        loadFraction(count - 2, leftAbove, leftBelow);
        loadFraction(count - 1, rightAbove, rightBelow);
        // Lowest terms are unique, so fractions that are the same have the same coefficients.
        for (int k = 0; k < WIDTH; k++) {
            if (leftAbove[k] != rightAbove[k] || leftBelow[k] != rightBelow[k]) {
                return false;
            }
        }
        return true;
    }

    public int degreeAbove() {
        if (count < 1) {
            return NONE;
        }
        loadFraction(count - 1, resultAbove, resultBelow);
        return degree(resultAbove);
    }

    public int degreeBelow() {
        if (count < 1) {
            return NONE;
        }
        loadFraction(count - 1, resultAbove, resultBelow);
        return degree(resultBelow);
    }

    public int coefficient(int k, int below) {
        if (k < 0 || k >= WIDTH) {
            return BAD_ARG;
        }
        if (count < 1) {
            return NONE;
        }
        loadFraction(count - 1, resultAbove, resultBelow);
        return below == 0 ? resultAbove[k] : resultBelow[k];
    }

    public int zeros() {
        if (count < 1) {
            return NONE;
        }
        return countTopAnswers(0);
    }

    public int poles() {
        if (count < 1) {
            return NONE;
        }
        return countTopAnswers(NONE);
    }

    // The stack

    private int pushResult(int newHeight) {
        storeFraction(count, resultAbove, resultBelow);
        heights[count] = newHeight;
        count = count + 1;
        return count;
    }

    private void loadFraction(int slot, int[] above, int[] below) {
        int from = slot * WIDTH;
        for (int k = 0; k < WIDTH; k++) {
            above[k] = stackAbove[from + k];
            below[k] = stackBelow[from + k];
        }
    }

    private void storeFraction(int slot, int[] above, int[] below) {
        int from = slot * WIDTH;
        for (int k = 0; k < WIDTH; k++) {
            stackAbove[from + k] = above[k];
            stackBelow[from + k] = below[k];
        }
    }

    // Fractions

    private void combine(int op) {
        setToNumber(resultAbove, 0);
        setToNumber(resultBelow, 0);
        if (op == MULTIPLY) {
            addProduct(resultAbove, leftAbove, rightAbove, 1);
            addProduct(resultBelow, leftBelow, rightBelow, 1);
        } else if (op == DIVIDE) {
            addProduct(resultAbove, leftAbove, rightBelow, 1);
            addProduct(resultBelow, leftBelow, rightAbove, 1);
        } else {
            int sign = op == SUBTRACT ? MINUS_ONE : 1;
            addProduct(resultAbove, leftAbove, rightBelow, 1);
            addProduct(resultAbove, leftBelow, rightAbove, sign);
            addProduct(resultBelow, leftBelow, rightBelow, 1);
        }
    }

    private void deriveTopIntoResult() {
        loadFraction(count - 1, leftAbove, leftBelow);
        derivePolynomial(leftAbove, rightAbove);
        derivePolynomial(leftBelow, rightBelow);
        setToNumber(resultAbove, 0);
        setToNumber(resultBelow, 0);
        addProduct(resultAbove, rightAbove, leftBelow, 1);
        addProduct(resultAbove, leftAbove, rightBelow, MINUS_ONE);
        addProduct(resultBelow, leftBelow, leftBelow, 1);
        lowerResult();
    }

    private void lowerResult() {
        if (isZero(resultAbove)) {
            setToNumber(resultBelow, 1);
            return;
        }
        findCommonDivisor();
        divide(resultAbove, common);
        copy(quotient, resultAbove);
        divide(resultBelow, common);
        copy(quotient, resultBelow);
        int leading = resultBelow[degree(resultBelow)];
        int scale = inverse(leading);
        multiplyByNumber(resultAbove, scale);
        multiplyByNumber(resultBelow, scale);
    }

    /** Euclid's algorithm; leaves the greatest common divisor of the result's two polynomials in common. */
    private void findCommonDivisor() {
        copy(resultAbove, common);
        copy(resultBelow, remainder);
        for (int step = 0; step < MAX_EUCLID_STEPS; step++) {
            if (isZero(remainder)) {
                return;
            }
            divide(common, remainder);
            exchange(common, remainder);
        }
    }

    private int resultAt(int a) {
        int bottom = polynomialAt(resultBelow, a);
        if (bottom == 0) {
            return NONE;
        }
        int top = polynomialAt(resultAbove, a);
        return top * inverse(bottom) % MODULUS;
    }

    private int countTopAnswers(int wanted) {
        loadFraction(count - 1, resultAbove, resultBelow);
        int found = 0;
        for (int a = 0; a < MODULUS; a++) {
            if (resultAt(a) == wanted) {
                found++;
            }
        }
        return found;
    }

    // Polynomials

    private static void setToNumber(int[] polynomial, int number) {
        for (int k = 1; k < WIDTH; k++) {
            polynomial[k] = 0;
        }
        polynomial[0] = number;
    }

    private static void copy(int[] from, int[] to) {
        for (int k = 0; k < WIDTH; k++) {
            to[k] = from[k];
        }
    }

    private static void exchange(int[] one, int[] other) {
        for (int k = 0; k < WIDTH; k++) {
            int kept = one[k];
            one[k] = other[k];
            other[k] = kept;
        }
    }

    private static boolean isZero(int[] polynomial) {
        return degree(polynomial) == 0 && polynomial[0] == 0;
    }

    /** The degree; 0 for the polynomial 0 too. */
    private static int degree(int[] polynomial) {
        for (int k = WIDTH - 1; k > 0; k--) {
            if (polynomial[k] != 0) {
                return k;
            }
        }
        return 0;
    }

    private static int polynomialAt(int[] polynomial, int a) {
        int sum = 0;
        for (int k = WIDTH - 1; k >= 0; k--) {
            sum = (sum * a + polynomial[k]) % MODULUS;
        }
        return sum;
    }

    private static void derivePolynomial(int[] polynomial, int[] derived) {
        for (int k = 1; k < WIDTH; k++) {
            derived[k - 1] = k * polynomial[k] % MODULUS;
        }
        derived[WIDTH - 1] = 0;
    }

    private static void multiplyByNumber(int[] polynomial, int number) {
        for (int k = 0; k < WIDTH; k++) {
            polynomial[k] = polynomial[k] * number % MODULUS;
        }
    }

    /** Adds to sum the product of the two polynomials and the factor. */
    private static void addProduct(int[] sum, int[] one, int[] other, int factor) {
        for (int i = 0; i < WIDTH; i++) {
            int scaled = one[i] * factor % MODULUS;
            for (int j = 0; i + j < WIDTH; j++) {
                sum[i + j] = (sum[i + j] + scaled * other[j]) % MODULUS;
            }
        }
    }

    /** Leaves the quotient in quotient and what is left over in dividend; divisor must not be 0. */
    private void divide(int[] dividend, int[] divisor) {
        setToNumber(quotient, 0);
        int divisorDegree = degree(divisor);
        int scale = inverse(divisor[divisorDegree]);
        for (int shift = WIDTH - 1 - divisorDegree; shift >= 0; shift--) {
            int factor = dividend[shift + divisorDegree] * scale % MODULUS;
            quotient[shift] = factor;
            for (int k = 0; k <= divisorDegree; k++) {
                int cell = dividend[shift + k] + (MODULUS - factor) * divisor[k];
                dividend[shift + k] = cell % MODULUS;
            }
        }
    }

    // Numbers

    private static boolean isNumber(int c) {
        return c >= 0 && c < MODULUS;
    }

    /** The number whose product with a is 1; 0 if a is 0, which has none. */
    private static int inverse(int a) {
        for (int c = 1; c < MODULUS; c++) {
            if (a * c % MODULUS == 1) {
                return c;
            }
        }
        return 0;
    }
}
