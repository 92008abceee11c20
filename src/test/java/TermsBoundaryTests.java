/** The boundary cases that the document names in 'What it is' and in 'Terms', a method for each sentence. */
public final class TermsBoundaryTests extends Checks {
    private static final int CALLS = 512;

    public static void main(String[] args) {
        numbersWrapAround();
        quotientByZero();
        powersFromZeroToThree();
        powerZero();
        sameWithoutEqualCoefficients();
        lowestTermsLeadWithOne();
        lowestTermsHaveNoCommonDivisor();
        lowestTermsOfZero();
        derivativeOfTerms();
        heightOfEachFormula();
        heightNeverAboveTwelve();
        noCallThrows();
        refusedCallsInARow();
        lastCallOfAll();
        finish();
    }

    private static void numbersWrapAround() {
        sentence("sums, differences and products are taken modulo 101, and so are quotients");
        for (int a = 0; a <= 100; a++) {
            for (int b = 0; b <= 100; b++) {
                due(a + " + " + b, ofConstants(a, b, ADD), (a + b) % 101);
                due(a + " - " + b, ofConstants(a, b, SUBTRACT), (a + 101 - b) % 101);
                due(a + " " + b, ofConstants(a, b, MULTIPLY), a * b % 101);
                if (b != 0) {
                    due("b (a / b), a " + a + ", b " + b, ofConstants(a, b, DIVIDE) * b % 101, a);
                }
            }
        }
    }

    private static int ofConstants(int a, int b, int op) {
        RationalFormulas f = new RationalFormulas();
        f.constant(a);
        f.constant(b);
        due(a + " and " + b + ": apply(" + op + ")", f.apply(op), 1);
        int number = f.coefficient(0, 0);
        due(a + " and " + b + ": apply(" + op + ") is a number", number >= 0 && number <= 100, true);
        return number;
    }

    private static void quotientByZero() {
        sentence("the quotient by a formula whose fraction is the same as 0 / 1 can't be made");
        String[] zeros = {
            "0", "100 1 +", "x x -", "0 x *", "0 x /", "x 0 *", "0 ^3", "0 ^1", "5 '", "x ' '",
            "x ^2 1 - x 1 - / x - 1 -", "1 x / 1 x / -", "1 x / ^2 1 x ^2 / -"};
        for (String zero : zeros) {
            for (String above : new String[] {"0", "1", "x", "1 x /"}) {
                dueKept("7 " + above + " " + zero, "apply(3)", NONE);
            }
        }
        dueChange("7 x 0 ^0", "apply(3)", 2, "7 x");
        dueChange("7 x 100 2 +", "apply(3)", 2, "7 x");
        dueFormula("0 x x 1 - - /", poly(0), poly(1), 2);
    }

    private static void powersFromZeroToThree() {
        sentence("F to the power n, n from 0 to 3");
        dueFormula("x 3 + ^0", poly(1), poly(1), 0);
        dueFormula("x 3 + ^1", poly(3, 1), poly(1), 1);
        dueFormula("x 3 + ^2", poly(9, 6, 1), poly(1), 2);
        dueFormula("x 3 + ^3", poly(27, 27, 9, 1), poly(1), 3);
        dueKept("x 3 +", "power(-1)", BAD_ARG);
        dueKept("x 3 +", "power(4)", BAD_ARG);
    }

    private static void powerZero() {
        sentence("power 0 is 1 / 1");
        for (String base : new String[] {"0", "1", "100", "x", "x x -", "1 x /", "x 1 + x 2 + /", ofHeight(12)}) {
            dueFormula(base + " ^0", poly(1), poly(1), 0);
        }
    }

    private static void sameWithoutEqualCoefficients() {
        sentence("two fractions P / Q and R / S are the SAME if P S and R Q are the same polynomial");
        dueKept("x 2 x * 2 /", "same()", 1);
        dueKept("1 x / x x ^2 /", "same()", 1);
        dueKept("0 x / 0 x 1 + /", "same()", 1);
        dueKept("x 1 + x 2 + / 5 x * 5 + 5 x * 10 + /", "same()", 1);
        dueKept("x 1 + x 2 + / 5 x * 5 + 5 x * 11 + /", "same()", 0);
        // That neither has a zero or a pole among the numbers does not make them the same.
        dueKept("1 x ^2 2 - / 1 x ^2 3 - /", "same()", 0);
        dueKept("x 100 x *", "same()", 0);
    }

    private static void lowestTermsLeadWithOne() {
        sentence("whose Q has the leading coefficient 1");
        for (int c = 1; c <= 100; c++) {
            int part = inverse(c);
            dueFormula("1 " + c + " x * 3 + /", poly(part), poly(3 * part % 101, 1), 1);
            dueFormula("x " + c + " /", poly(0, part), poly(1), 1);
            dueFormula("1 " + c + " /", poly(part), poly(1), 0);
            dueFormula("x " + c + " x ^2 * /", poly(part), poly(0, 1), 3);
        }
    }

    private static int inverse(int a) {
        int c = 1;
        while (a * c % 101 != 1) {
            c++;
        }
        return c;
    }

    private static void lowestTermsHaveNoCommonDivisor() {
        sentence("no polynomial of degree above 0 divides both P and Q");
        dueFormula("x x /", poly(1), poly(1), 2);
        dueFormula("x 1 - x 1 + /", poly(100, 1), poly(1, 1), 2);
        dueFormula("x ^2 1 - x 1 - /", poly(1, 1), poly(1), 3);
        dueFormula("x 1 - x ^2 1 - /", poly(1), poly(1, 1), 3);
        // x^2 - 2 has no zero among the numbers, so only polynomials can tell that it divides both.
        dueFormula("x ^2 2 - x 1 + * x ^2 2 - x 3 + * /", poly(1, 1), poly(3, 1), 6);
        dueFormula("x ^2 2 - x ^2 3 - /", poly(99, 0, 1), poly(98, 0, 1), 4);
        dueFormula("x 1 - ^3 ^2 x 1 - ^3 ^2 /", poly(1), poly(1), 12);
        dueFormula("x 1 - ^3 ^2 1 x 1 - ^3 ^2 / *", poly(1), poly(1), 12);
        dueFormula("x 1 - ^3 ^2 x - x 1 - ^3 x ^2 * /",
                poly(1, 94, 15, 81, 15, 95, 1), poly(0, 0, 100, 3, 98, 1), 12);
    }

    private static void lowestTermsOfZero() {
        sentence("0 has the lowest terms 0 / 1");
        dueFormula("0", poly(0), poly(1), 0);
        dueFormula("0 5 /", poly(0), poly(1), 0);
        dueFormula("0 2 x * 3 + /", poly(0), poly(1), 1);
        dueFormula("x x -", poly(0), poly(1), 2);
        dueFormula("1 x / 0 *", poly(0), poly(1), 1);
        dueFormula("1 x / 1 x / -", poly(0), poly(1), 2);
        dueFormula("1 x / 100 x / +", poly(0), poly(1), 2);
        dueFormula("0 x / ^3", poly(0), poly(1), 3);
        dueFormula("0 x / '", poly(0), poly(1), 2);
        dueFormula("x x / '", poly(0), poly(1), 4);
        dueFormula(zeroOfHeight(12), poly(0), poly(1), 12);
    }

    private static void derivativeOfTerms() {
        sentence("for each term c x^k the term k c x^(k-1)");
        for (int k = 0; k <= 6; k++) {
            int[] derived = new int[Math.max(k, 1)];
            derived[derived.length - 1] = 100 * k % 101;
            dueFormula(ofHeight(k) + " 100 * '", derived, poly(1), 2 * k);
        }
        dueFormula("x 34 * 99 + '", poly(34), poly(1), 2);
        sentence("the DERIVATIVE of P / Q is (P' Q - P Q') / (Q Q)");
        dueFormula("1 x / '", poly(100), poly(0, 0, 1), 2);
        dueFormula("5 7 / '", poly(0), poly(1), 0);
        dueFormula("1 x 1 - x 2 - * x 3 - * / '",
                poly(90, 12, 98), poly(36, 70, 92, 58, 58, 89, 1), 6);
    }

    private static void heightOfEachFormula() {
        sentence("the HEIGHT of a formula");
        due("x", formula("x").height(), 1);
        due("0", formula("0").height(), 0);
        due("100", formula("100").height(), 0);
        for (String op : new String[] {"+", "-", "*", "/"}) {
            due("constants " + op, formula("3 4 " + op).height(), 0);
            due("x and constant " + op, formula("x 4 " + op).height(), 1);
            due("x^2 and x^3 " + op, formula("x ^2 x ^3 " + op).height(), 5);
            due("x^6 and x^6 " + op, formula("x ^3 ^2 x ^2 ^3 " + op).height(), 12);
        }
        for (int n = 0; n <= 3; n++) {
            due("constant ^" + n, formula("5 ^" + n).height(), 0);
            due("x^4 ^" + n, formula("x ^2 ^2 ^" + n).height(), 4 * n);
            due("x / x ^" + n, formula("x x / ^" + n).height(), 2 * n);
        }
    }

    private static void heightNeverAboveTwelve() {
        sentence("the height is never above 12");
        for (int high = 0; high <= 12; high++) {
            for (int other = 0; other <= 12; other++) {
                for (int op = ADD; op <= DIVIDE; op++) {
                    applyToHeights(high, other, op);
                }
            }
            for (int n = 0; n <= 3; n++) {
                dueHeight(ofHeight(high), "power(" + n + ")", n * high, 1);
                dueHeight(zeroOfHeight(high), "power(" + n + ")", n * high, 1);
            }
            dueHeight(ofHeight(high), "derive()", 2 * high, 1);
            dueHeight(zeroOfHeight(high), "derive()", 2 * high, 1);
        }
    }

    private static void applyToHeights(int high, int other, int op) {
        String call = "apply(" + op + ")";
        dueHeight(ofHeight(high) + " " + ofHeight(other), call, high + other, 1);
        dueHeight(zeroOfHeight(high) + " " + ofHeight(other), call, high + other, 1);
        boolean byZero = op == DIVIDE && high + other <= 12;
        if (byZero) {
            dueKept(ofHeight(high) + " " + zeroOfHeight(other), call, NONE);
        } else {
            dueHeight(ofHeight(high) + " " + zeroOfHeight(other), call, high + other, 1);
        }
    }

    private static void dueHeight(String words, String call, int height, int depth) {
        if (height > 12) {
            dueKept(words, call, FULL);
            return;
        }
        RationalFormulas f = formula(words);
        due("after '" + words + "': " + call, call(f, call), depth);
        due("after '" + words + "': height after " + call, f.height(), height);
    }

    private static void noCallThrows() {
        sentence("No call ever throws");
        String[] stacks = {"", "0", "x", "1 x /", ofHeight(12), zeroOfHeight(12), "x 0", "1 1 x /",
            ofHeight(12) + " dup", "1 2 3", "1 2 3 4", "1 2 3 4 5", "1 2 3 4 5 x", "x dup dup dup dup 0"};
        String[] withArgument = {"constant", "apply", "power", "value", "slope"};
        for (String stack : stacks) {
            for (int argument : arguments()) {
                for (String name : withArgument) {
                    call(formula(stack), name + "(" + argument + ")");
                }
                call(formula(stack), "coefficient(" + argument + ", 0)");
                call(formula(stack), "coefficient(" + argument + ", 1)");
                call(formula(stack), "coefficient(24, " + argument + ")");
            }
            for (String call : callsWithout()) {
                call(formula(stack), call);
            }
        }
    }

    private static int[] arguments() {
        int[] far = outside(0, 100);
        int[] all = new int[far.length + 601];
        System.arraycopy(far, 0, all, 0, far.length);
        for (int i = 0; i <= 600; i++) {
            all[far.length + i] = i - 300;
        }
        return all;
    }

    private static String[] callsWithout() {
        return new String[] {"variable()", "derive()", "dup()", "drop()", "swap()", "depth()", "height()", "same()",
            "degreeAbove()", "degreeBelow()", "zeros()", "poles()"};
    }

    /** One object that is refused by every code in turn, and is then still the one it was. */
    private static void refusedCallsInARow() {
        sentence("A refused call answers the code named and changes nothing");
        String stack = "3 x 5 + 1 x / x 2 - x x - x ^3 ^2 ^2 swap";
        String[] refused = {"variable()", "constant(5)", "constant(101)", "apply(0)", "apply(1)", "apply(2)",
            "apply(3)", "apply(-1)", "apply(4)", "power(-1)", "power(4)", "dup()", "value(-1)", "value(101)",
            "slope(-1)", "slope(101)", "coefficient(-1, 0)", "coefficient(25, 1)"};
        int[] codes = {FULL, FULL, BAD_ARG, FULL, FULL, FULL, FULL, BAD_ARG, BAD_ARG, BAD_ARG, BAD_ARG, FULL,
            BAD_ARG, BAD_ARG, BAD_ARG, BAD_ARG, BAD_ARG, BAD_ARG};
        RationalFormulas f = formula(stack);
        for (int i = 0; i < refused.length; i++) {
            due(refused[i], call(f, refused[i]), codes[i]);
        }
        f.swap();
        due("power(2) of height 12", f.power(2), FULL);
        due("power(3) of height 12", f.power(3), FULL);
        due("derive() of height 12", f.derive(), FULL);
        f.swap();
        dueTop("x - x", f, poly(0), poly(1), 2);
        due("drop", f.drop(), 5);
        dueTop("x^12", f, poly(0, 0, 0, 0, 0, 0, 0, 0, 0, 0, 0, 0, 1), poly(1), 12);
        due("drop", f.drop(), 4);
        dueTop("x - 2", f, poly(99, 1), poly(1), 1);
        due("drop", f.drop(), 3);
        dueTop("1 / x", f, poly(1), poly(0, 1), 1);
        due("drop", f.drop(), 2);
        dueTop("x + 5", f, poly(5, 1), poly(1), 1);
        due("drop", f.drop(), 1);
        dueTop("3", f, poly(3), poly(1), 0);
    }

    private static void lastCallOfAll() {
        sentence("An object is used for at most 512 calls");
        dueAtLast("variable()", 4);
        dueAtLast("constant(100)", 4);
        dueAtLast("apply(3)", 2);
        dueAtLast("power(3)", 3);
        dueAtLast("derive()", 3);
        dueAtLast("dup()", 4);
        dueAtLast("drop()", 2);
        dueAtLast("swap()", 3);
        dueAtLast("depth()", 3);
        dueAtLast("height()", 2);
        dueAtLast("value(3)", 17);
        dueAtLast("slope(3)", 70);
        dueAtLast("same()", 0);
        dueAtLast("degreeAbove()", 0);
        dueAtLast("degreeBelow()", 2);
        dueAtLast("coefficient(1, 1)", 100);
        dueAtLast("zeros()", 0);
        dueAtLast("poles()", 2);
        dueAtLast("variable()", "dup", "drop", 4);
        dueAtLast("value(3)", "x", "drop", 17);
        dueAtLast("apply(2)", "^1", "swap", 2);
    }

    private static void dueAtLast(String call, int want) {
        dueAtLast(call, "swap", "swap", want);
    }

    /** The answer of the 512th call, after calls that come in pairs and leave 7, x and 1 / (x^2 - x) on the stack. */
    private static void dueAtLast(String call, String first, String second, int want) {
        RationalFormulas f = new RationalFormulas();
        String words = "7 x 1 x x 1 - * /";
        push(f, words);
        int made = words.split(" ").length;
        while (made < CALLS - 3) {
            push(f, first + " " + second);
            made += 2;
        }
        while (made < CALLS - 1) {
            due("call " + (made + 1) + ": depth()", f.depth(), 3);
            made++;
        }
        due("call 512, after pairs of " + first + " and " + second + ": " + call, call(f, call), want);
    }
}
