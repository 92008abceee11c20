/** The boundary cases that promises 12 to 19 name, a method for each sentence. */
public final class QuestionBoundaryTests extends Checks {
    private static final String SIX = "3 1 x / x ^2 0 x 1 - 8 swap";

    public static void main(String[] args) {
        valueAtTheEdges();
        valueAtPoles();
        valueOnEmptyStack();
        valueOutsideItsRange();
        slopeAtTheEdges();
        slopeAtPoles();
        slopeAboveHeightSix();
        slopeOfDegreeTwelveAboveAndBelow();
        slopeOnEmptyStack();
        slopeOutsideItsRange();
        sameOnFewerThanTwo();
        sameOfTheTwoTopmost();
        degreeAboveOfConstants();
        degreeAboveUpToTwelve();
        degreeBelowUpToTwelve();
        degreesOnEmptyStack();
        coefficientAboveAndBelow();
        coefficientAtTheEdges();
        coefficientOnEmptyStack();
        coefficientOutsideItsRange();
        zerosFromNoneToAll();
        zerosOnEmptyStack();
        polesFromNoneToTwelve();
        polesOnEmptyStack();
        questionsOnOneFormula();
        questionsAfterDrop();
        questionsLeaveNothingBehind();
        finish();
    }

    private static void valueAtTheEdges() {
        sentence("12: the value P(a) / Q(a)");
        dueKept("9 x", "value(0)", 0);
        dueKept("9 x", "value(1)", 1);
        dueKept("9 x", "value(99)", 99);
        dueKept("9 x", "value(100)", 100);
        dueKept("9 x 1 +", "value(100)", 0);
        dueKept("9 x 1 -", "value(0)", 100);
        dueKept("9 x ^3 ^2 ^2", "value(100)", 1);
        dueKept("9 1 x /", "value(100)", 100);
        dueKept(SIX, "value(100)", 99);
        for (int a = 0; a <= 100; a++) {
            due("value(" + a + ") of 0", formula("0").value(a), 0);
            due("value(" + a + ") of 100", formula("100").value(a), 100);
            due("value(" + a + ") of x", formula("x").value(a), a);
            due("value(" + a + ") of x^2", formula("x ^2").value(a), a * a % 101);
        }
        sentence("12: With P / Q the lowest terms");
        dueKept("9 x x /", "value(0)", 1);
        dueKept("9 0 x /", "value(0)", 0);
        dueKept("9 x ^2 x /", "value(0)", 0);
        dueKept("9 x ^2 1 - x 1 - /", "value(1)", 2);
        dueKept("9 x ^2 1 - x 1 + /", "value(100)", 99);
        dueKept("9 1 x / 1 x / -", "value(0)", 0);
    }

    private static void valueAtPoles() {
        sentence("12: NONE if Q(a) is 0");
        for (int a = 0; a <= 100; a++) {
            RationalFormulas f = formula("1 x " + a + " - /");
            for (int b = 0; b <= 100; b++) {
                int value = f.value(b);
                if (a == b) {
                    due("value(" + b + ") of 1 / (x - " + a + ")", value, NONE);
                } else {
                    due("1 / value(" + b + ") of 1 / (x - " + a + ")", value * (b + 101 - a) % 101, 1);
                }
            }
        }
        dueKept("9 1 x /", "value(0)", NONE);
        dueKept("9 1 x 1 + /", "value(100)", NONE);
        dueKept("9 x x ^2 /", "value(0)", NONE);
        dueKept("9 x x ^3 ^3 /", "value(0)", NONE);
        dueKept("9 1 x ^2 1 + /", "value(10)", NONE);
        dueKept("9 1 x ^2 1 + /", "value(91)", NONE);
    }

    private static void valueOnEmptyStack() {
        sentence("12: NONE if the stack is empty");
        for (int a : new int[] {0, 1, 50, 99, 100}) {
            dueKept("", "value(" + a + ")", NONE);
            dueKept("x drop", "value(" + a + ")", NONE);
        }
        dueKept("5", "value(0)", 5);
    }

    private static void valueOutsideItsRange() {
        sentence("12: BAD_ARG if a is not 0 to 100, tested first");
        for (int a : outside(0, 100)) {
            String call = "value(" + a + ")";
            dueKept("", call, BAD_ARG);
            dueKept("5", call, BAD_ARG);
            dueKept("9 1 x /", call, BAD_ARG);
            dueKept("9 1 x 1 + /", call, BAD_ARG);
            dueKept(SIX, call, BAD_ARG);
        }
    }

    private static void slopeAtTheEdges() {
        sentence("13: The value at a of the lowest terms of the derivative of the top");
        dueKept("9 x", "slope(0)", 1);
        dueKept("9 x", "slope(100)", 1);
        dueKept("9 x ^2", "slope(0)", 0);
        dueKept("9 x ^2", "slope(100)", 99);
        dueKept("9 x ^2", "slope(51)", 1);
        dueKept("9 5", "slope(0)", 0);
        dueKept("9 5", "slope(100)", 0);
        dueKept("9 0", "slope(50)", 0);
        dueKept("9 x x /", "slope(0)", 0);
        dueKept("9 x ^2 x /", "slope(0)", 1);
        dueKept("9 x ^2 1 - x 1 - /", "slope(1)", 1);
        dueKept("9 0 x /", "slope(0)", 0);
        dueKept("9 1 x /", "slope(1)", 100);
        dueKept("9 1 x /", "slope(100)", 100);
        dueKept(SIX, "slope(100)", 1);
        for (int a = 0; a <= 100; a++) {
            due("slope(" + a + ") of x^3", formula("x ^3").slope(a), 3 * a * a % 101);
        }
    }

    private static void slopeAtPoles() {
        sentence("13: NONE as for value (Q is that of the derivative)");
        for (int a = 0; a <= 100; a++) {
            dueKept("9 1 x " + a + " - /", "slope(" + a + ")", NONE);
            RationalFormulas f = formula("1 x " + a + " - /");
            for (int b = 0; b <= 100; b++) {
                int away = (b + 101 - a) % 101;
                if (away != 0) {
                    due("slope(" + b + ") of 1 / (x - " + a + ")", f.slope(b) * away % 101 * away % 101, 100);
                }
            }
        }
        dueKept("9 1 x ^3 /", "slope(0)", NONE);
        dueKept("9 1 x ^3 ^2 ^2 /", "slope(0)", NONE);
        dueKept("9 x x ^2 /", "slope(0)", NONE);
    }

    /** derive is FULL for these heights, but promise 13 names no FULL. */
    private static void slopeAboveHeightSix() {
        sentence("13: the value of the derivative at every height");
        for (int height = 0; height <= 12; height++) {
            dueKept("9 " + ofHeight(height), "slope(1)", height);
            dueKept("9 " + ofHeight(height), "slope(0)", height == 1 ? 1 : 0);
            dueKept("9 1 " + ofHeight(height) + " /", "slope(1)", (101 - height) % 101);
            dueKept("9 " + zeroOfHeight(height), "slope(0)", 0);
        }
        // (x^6 - 2) / (x^6 - 3): the derivative -6 x^5 / (x^6 - 3)^2 has degree 12 below before and after lowering
        dueKept("9 x ^3 ^2 2 - x ^3 ^2 3 - /", "slope(1)", 49);
        // 1 / (x^12 - 2): the derivative -12 x^11 / (x^12 - 2)^2 has degree 24 below in its lowest terms
        dueKept("9 1 x ^3 ^2 ^2 2 - /", "slope(1)", 89);
        dueKept("9 1 x ^3 ^2 ^2 2 - /", "slope(100)", 12);
        dueKept("9 1 x ^3 ^2 ^2 2 - /", "slope(0)", 0);
        // 1 / (x + 1)^12: -12 (x + 1)^11 / (x + 1)^24, in lowest terms -12 / (x + 1)^13
        dueKept("9 1 x 1 + ^3 ^2 ^2 /", "slope(0)", 89);
        dueKept("9 1 x 1 + ^3 ^2 ^2 /", "slope(99)", 12);
        dueKept("9 1 x 1 + ^3 ^2 ^2 /", "slope(100)", NONE);
    }

    /**
     * Products of twelve c + 1 / (x - d): the derivative has degree 22 above and 24 below at first. The numbers d
     * have the sum 0, so that x^23 is missing below: who overlooks x^24 errs. No zero of a factor is another's d.
     */
    private static void slopeOfDegreeTwelveAboveAndBelow() {
        sentence("13: the derivative of a formula with degree 12 above and below");
        dueSlopesOfProduct(
                new int[] {48, 21, 63, 3, 67, 40, 57, 66, 48, 37, 60, 57},
                new int[] {42, 4, 5, 27, 76, 80, 11, 35, 98, 69, 24, 34});
        dueSlopesOfProduct(
                new int[] {79, 60, 56, 75, 63, 98, 53, 30, 81, 35, 9, 91},
                new int[] {52, 1, 7, 86, 22, 78, 89, 99, 73, 82, 21, 97});
        dueSlopesOfProduct(
                new int[] {88, 48, 56, 48, 60, 50, 65, 83, 57, 20, 62, 95},
                new int[] {71, 35, 20, 6, 20, 78, 77, 11, 83, 52, 31, 21});
    }

    private static void dueSlopesOfProduct(int[] c, int[] d) {
        RationalFormulas f = formula("1");
        for (int i = 0; i < c.length; i++) {
            push(f, "1 x " + d[i] + " - / " + c[i] + " + *");
        }
        due("height of the product", f.height(), 12);
        for (int a = 0; a <= 100; a++) {
            due("slope(" + a + ") of the product", f.slope(a), slopeOfProduct(c, d, a));
        }
    }

    /** By the rule for products: the sum of the products in which one factor is derived. */
    private static int slopeOfProduct(int[] c, int[] d, int a) {
        int sum = 0;
        for (int i = 0; i < c.length; i++) {
            int product = 1;
            for (int j = 0; j < c.length; j++) {
                int away = (a + 101 - d[j]) % 101;
                if (away == 0) {
                    return NONE;
                }
                int part = inverse(away);
                int factor = j == i ? (101 - part) * part : c[j] + part;
                product = product * (factor % 101) % 101;
            }
            sum = (sum + product) % 101;
        }
        return sum;
    }

    private static int inverse(int a) {
        int c = 1;
        while (a * c % 101 != 1) {
            c++;
        }
        return c;
    }

    private static void slopeOnEmptyStack() {
        sentence("13: NONE as for value");
        for (int a : new int[] {0, 1, 50, 99, 100}) {
            dueKept("", "slope(" + a + ")", NONE);
            dueKept("x drop", "slope(" + a + ")", NONE);
        }
        dueKept("x", "slope(0)", 1);
    }

    private static void slopeOutsideItsRange() {
        sentence("13: BAD_ARG as for value");
        for (int a : outside(0, 100)) {
            String call = "slope(" + a + ")";
            dueKept("", call, BAD_ARG);
            dueKept("5", call, BAD_ARG);
            dueKept("9 1 x /", call, BAD_ARG);
            dueKept("9 1 x 1 + /", call, BAD_ARG);
            dueKept(SIX, call, BAD_ARG);
        }
    }

    private static void sameOnFewerThanTwo() {
        sentence("14: false if there are fewer than two");
        dueKept("", "same()", 0);
        dueKept("x", "same()", 0);
        dueKept("0", "same()", 0);
        dueKept("1", "same()", 0);
        dueKept("x dup drop", "same()", 0);
        dueKept("x dup drop drop", "same()", 0);
        dueKept("x dup", "same()", 1);
    }

    private static void sameOfTheTwoTopmost() {
        sentence("14: Whether the two topmost are the same");
        dueKept("0 0", "same()", 1);
        dueKept("0 100", "same()", 0);
        dueKept("0 100 1 +", "same()", 1);
        dueKept("1 x x /", "same()", 1);
        dueKept("0 " + zeroOfHeight(12), "same()", 1);
        dueKept("1 x ^3 ^2 dup /", "same()", 1);
        dueKept("1 x /", "same()", 0);
        dueKept("x 1 x /", "same()", 0);
        dueKept("1 x / dup 1 +", "same()", 0);
        dueKept("1 x / 1 x 1 + /", "same()", 0);
        dueKept("x ^3 ^2 ^2 dup 1 +", "same()", 0);
        dueKept("1 x ^3 ^2 ^2 / 1 x ^3 ^2 ^2 1 + /", "same()", 0);
        dueKept("x ^3 ^2 ^2 dup", "same()", 1);
        dueKept("x x 1 x x 1", "same()", 0);
        dueKept("1 2 3 4 x x", "same()", 1);
        dueKept("5 x 5", "same()", 0);
    }

    private static void degreeAboveOfConstants() {
        sentence("15: 0 for a constant one, 0 too for P = 0");
        for (String words : new String[] {"0", "1", "100", "x x -", "0 x /", "x x /", "1 x /", "1 x ^3 ^2 ^2 /"}) {
            dueKept("x " + words, "degreeAbove()", 0);
        }
        dueKept("1 " + zeroOfHeight(12), "degreeAbove()", 0);
        dueKept("1 x", "degreeAbove()", 1);
    }

    private static void degreeAboveUpToTwelve() {
        sentence("15: The degree of P in the lowest terms of the top");
        for (int degree = 0; degree <= 12; degree++) {
            dueKept("9 " + ofHeight(degree), "degreeAbove()", degree);
        }
        dueKept("9 x ^3 ^2 x ^3 ^2 /", "degreeAbove()", 0);
        dueKept("9 x ^3 ^2 x ^2 /", "degreeAbove()", 4);
        dueKept("9 x ^2 x ^3 ^2 /", "degreeAbove()", 0);
        dueKept("9 x ^3 x ^3 x + -", "degreeAbove()", 1);
        // The leading coefficient 50 + 51 is 0 modulo 101.
        dueKept("9 50 x ^2 * 51 x ^2 * x + +", "degreeAbove()", 1);
    }

    private static void degreeBelowUpToTwelve() {
        sentence("16: The degree of Q in the lowest terms of the top");
        for (int degree = 0; degree <= 12; degree++) {
            dueKept("9 1 " + ofHeight(degree) + " /", "degreeBelow()", degree);
        }
        dueKept("9 0", "degreeBelow()", 0);
        dueKept("9 x ^3 ^2 ^2", "degreeBelow()", 0);
        dueKept("9 0 x ^3 ^2 ^2 /", "degreeBelow()", 0);
        dueKept("9 x ^3 ^2 x ^3 ^2 /", "degreeBelow()", 0);
        dueKept("9 x ^2 x ^3 ^2 /", "degreeBelow()", 4);
        dueKept("9 x ^3 ^2 x ^2 /", "degreeBelow()", 0);
        dueKept("9 x 1 x / 1 x / - *", "degreeBelow()", 0);
    }

    private static void degreesOnEmptyStack() {
        sentence("15, 16: NONE if the stack is empty");
        dueKept("", "degreeAbove()", NONE);
        dueKept("", "degreeBelow()", NONE);
        dueKept("1 x / drop", "degreeAbove()", NONE);
        dueKept("1 x / drop", "degreeBelow()", NONE);
        dueKept("0", "degreeAbove()", 0);
        dueKept("0", "degreeBelow()", 0);
    }

    private static void coefficientAboveAndBelow() {
        sentence("17: of P (below = 0) or of Q (below not 0)");
        String words = "9 x 3 + x 7 + /";
        dueKept(words, "coefficient(0, 0)", 3);
        for (int below : outside(0, 0)) {
            dueKept(words, "coefficient(0, " + below + ")", 7);
        }
        for (int below = -300; below <= 300; below++) {
            due("coefficient(0, " + below + ")", formula(words).coefficient(0, below), below == 0 ? 3 : 7);
        }
    }

    private static void coefficientAtTheEdges() {
        sentence("17: The coefficient of x^k ... in the lowest terms of the top");
        for (int k = 0; k <= 24; k++) {
            dueKept("9 x ^3 ^2 ^2 100 *", "coefficient(" + k + ", 0)", k == 12 ? 100 : 0);
            dueKept("9 x ^3 ^2 ^2 100 *", "coefficient(" + k + ", 1)", k == 0 ? 1 : 0);
            dueKept("9 100 x ^3 ^2 ^2 /", "coefficient(" + k + ", 0)", k == 0 ? 100 : 0);
            dueKept("9 100 x ^3 ^2 ^2 /", "coefficient(" + k + ", 1)", k == 12 ? 1 : 0);
            dueKept("9 0", "coefficient(" + k + ", 0)", 0);
            dueKept("9 0 x /", "coefficient(" + k + ", 1)", k == 0 ? 1 : 0);
            dueKept(SIX, "coefficient(" + k + ", 0)", k == 0 ? 100 : k == 1 ? 1 : 0);
            dueKept(SIX, "coefficient(" + k + ", 1)", k == 0 ? 1 : 0);
        }
    }

    private static void coefficientOnEmptyStack() {
        sentence("17: NONE if the stack is empty");
        for (int k = 0; k <= 24; k++) {
            dueKept("", "coefficient(" + k + ", 0)", NONE);
            dueKept("", "coefficient(" + k + ", 1)", NONE);
            dueKept("x drop", "coefficient(" + k + ", 0)", NONE);
        }
    }

    private static void coefficientOutsideItsRange() {
        sentence("17: BAD_ARG if k is not 0 to 24, tested first");
        for (int k : outside(0, 24)) {
            for (int below : new int[] {0, 1, -1}) {
                String call = "coefficient(" + k + ", " + below + ")";
                dueKept("", call, BAD_ARG);
                dueKept("5", call, BAD_ARG);
                dueKept("9 1 x /", call, BAD_ARG);
                dueKept(SIX, call, BAD_ARG);
            }
        }
    }

    private static void zerosFromNoneToAll() {
        sentence("18: How many a from 0 to 100 have the value 0");
        dueKept("9 0", "zeros()", 101);
        dueKept("9 x x -", "zeros()", 101);
        dueKept("9 0 x /", "zeros()", 101);
        dueKept("9 " + zeroOfHeight(12), "zeros()", 101);
        dueKept("9 1", "zeros()", 0);
        dueKept("9 100", "zeros()", 0);
        dueKept("9 x x /", "zeros()", 0);
        dueKept("9 1 x /", "zeros()", 0);
        dueKept("9 x ^2 2 -", "zeros()", 0);
        dueKept("9 x ^3 ^2 ^2", "zeros()", 1);
        dueKept("9 x ^2 x /", "zeros()", 1);
        dueKept("9 x x ^2 /", "zeros()", 0);
        for (int a = 0; a <= 100; a++) {
            dueKept("9 x " + a + " -", "zeros()", 1);
        }
        for (int count = 1; count <= 12; count++) {
            dueKept("9 " + differences(count), "zeros()", count);
            dueKept("9 " + differencesToHundred(count), "zeros()", count);
        }
        dueKept("9 " + differences(6) + " " + differencesToHundred(6) + " /", "zeros()", 6);
        dueKept("9 " + differences(6) + " " + differences(5) + " /", "zeros()", 1);
    }

    private static void zerosOnEmptyStack() {
        sentence("18: NONE if the stack is empty");
        dueKept("", "zeros()", NONE);
        dueKept("x drop", "zeros()", NONE);
        dueKept("0 drop", "zeros()", NONE);
    }

    private static void polesFromNoneToTwelve() {
        sentence("19: How many a from 0 to 100 have no value");
        dueKept("9 0", "poles()", 0);
        dueKept("9 0 x /", "poles()", 0);
        dueKept("9 1", "poles()", 0);
        dueKept("9 x", "poles()", 0);
        dueKept("9 x x /", "poles()", 0);
        dueKept("9 1 x ^2 2 - /", "poles()", 0);
        dueKept("9 1 x ^3 ^2 ^2 /", "poles()", 1);
        dueKept("9 x ^2 x /", "poles()", 0);
        dueKept("9 x x ^2 /", "poles()", 1);
        for (int a = 0; a <= 100; a++) {
            dueKept("9 1 x " + a + " - /", "poles()", 1);
        }
        for (int count = 1; count <= 12; count++) {
            dueKept("9 1 " + differences(count) + " /", "poles()", count);
            dueKept("9 1 " + differencesToHundred(count) + " /", "poles()", count);
        }
        dueKept("9 " + differences(6) + " " + differencesToHundred(6) + " /", "poles()", 6);
        dueKept("9 " + differences(5) + " " + differences(6) + " /", "poles()", 1);
    }

    private static void polesOnEmptyStack() {
        sentence("19: NONE if the stack is empty");
        dueKept("", "poles()", NONE);
        dueKept("1 x / drop", "poles()", NONE);
    }

    private static void questionsOnOneFormula() {
        sentence("12 to 19: one formula on the stack is enough, but for same");
        String one = "x 2 - x ^2 1 - /";
        dueKept(one, "value(3)", 38);
        dueKept(one, "slope(3)", 60);
        dueKept(one, "same()", 0);
        dueKept(one, "degreeAbove()", 1);
        dueKept(one, "degreeBelow()", 2);
        dueKept(one, "coefficient(0, 0)", 99);
        dueKept(one, "coefficient(0, 1)", 100);
        dueKept(one, "zeros()", 1);
        dueKept(one, "poles()", 2);
    }

    /** What was taken off, and what was made last, is not what is asked about. */
    private static void questionsAfterDrop() {
        sentence("12 to 19: the top is what is left after a drop");
        for (String dropped : new String[] {"7", "x", "1 x /", "0", "x ^3 ^2 ^2"}) {
            String left = "x 2 - x ^2 1 - / " + dropped + " drop";
            dueKept(left, "height()", 3);
            dueKept(left, "value(3)", 38);
            dueKept(left, "slope(3)", 60);
            dueKept(left, "same()", 0);
            dueKept(left, "degreeAbove()", 1);
            dueKept(left, "degreeBelow()", 2);
            dueKept(left, "coefficient(0, 0)", 99);
            dueKept(left, "coefficient(0, 1)", 100);
            dueKept(left, "zeros()", 1);
            dueKept(left, "poles()", 2);
            dueChange(left, "dup()", 2, "x 2 - x ^2 1 - / x 2 - x ^2 1 - /");
        }
    }

    /** A question may fill the degrees up to 24 with what it works on; no later formula may show it. */
    private static void questionsLeaveNothingBehind() {
        sentence("No question changes what later calls make");
        String[] questions = {"value(1)", "slope(1)", "same()", "degreeAbove()", "degreeBelow()",
            "coefficient(24, 1)", "zeros()", "poles()", "height()", "depth()"};
        String[] tops = {"1 x ^3 ^2 ^2 2 - /", "x ^3 ^2 ^2 3 -", "x ^3 ^2 2 - x ^3 ^2 3 - /", "0"};
        for (String question : questions) {
            for (String top : tops) {
                RationalFormulas f = formula(top);
                call(f, question);
                String what = "after '" + top + "' and " + question + ": ";
                push(f, "x ^2 x /");
                dueTop(what + "x^2 / x", f, poly(0, 1), poly(1), 3);
                call(f, question);
                push(f, "'");
                dueTop(what + "its derivative", f, poly(1), poly(1), 6);
                push(f, "x ^2 1 - x ^2 3 x * + 2 + /");
                dueTop(what + "(x^2 - 1) / (x^2 + 3 x + 2)", f, poly(100, 1), poly(2, 1), 5);
            }
        }
    }

    /** The words of the product of x - 0, x - 1 and so on, count of them. */
    private static String differences(int count) {
        StringBuilder words = new StringBuilder("x");
        for (int a = 1; a < count; a++) {
            words.append(" x ").append(a).append(" - *");
        }
        return words.toString();
    }

    /** The words of the product of x - 100, x - 99 and so on, count of them. */
    private static String differencesToHundred(int count) {
        StringBuilder words = new StringBuilder("x 100 -");
        for (int i = 1; i < count; i++) {
            words.append(" x ").append(100 - i).append(" - *");
        }
        return words.toString();
    }
}
