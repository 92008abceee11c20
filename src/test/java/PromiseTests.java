/** For each promise of the document: ordinary inputs, the edges it names, and wrong inputs in the order it tests them. */
public final class PromiseTests extends Checks {
    public static void main(String[] args) {
        terms();
        promise1NewObject();
        promise2Variable();
        promise3Constant();
        promise4Apply();
        promise4ApplyRefused();
        promise5Power();
        promise6Derive();
        promise7Dup();
        promise8Drop();
        promise9Swap();
        promise10Depth();
        promise11Height();
        promise12Value();
        promise13Slope();
        promise14Same();
        promise15DegreeAbove();
        promise16DegreeBelow();
        promise17Coefficient();
        promise18Zeros();
        promise19Poles();
        questionsAfterDrop();
        finish();
    }

    private static void terms() {
        due("BAD_ARG", BAD_ARG, -1);
        due("FULL", FULL, -2);
        due("TOO_FEW", TOO_FEW, -3);
        due("NONE", NONE, -4);
        dueFormula("2 x * 4 /", poly(0, 51), poly(1), 1);
        dueFormula("1 2 x * 3 + /", poly(51), poly(52, 1), 1);
        dueFormula("x x - x x * /", poly(0), poly(1), 4);
        dueFormula("x ^2 1 - x 1 - /", poly(1, 1), poly(1), 3);
        dueFormula("x ^2 1 + x 10 - /", poly(10, 1), poly(1), 3);
        dueFormula("x ^3 5 * x ^2 3 * /", poly(0, 69), poly(1), 5);
        dueFormula("x ^2 1 - x ^2 2 + /", poly(100, 0, 1), poly(2, 0, 1), 4);
        dueFormula("x ^2 3 x * + 2 + x ^2 5 x * + 6 + /", poly(1, 1), poly(3, 1), 6);
    }

    private static void promise1NewObject() {
        RationalFormulas f = new RationalFormulas();
        due("new: depth", f.depth(), 0);
        due("new: height", f.height(), NONE);
        due("new: drop", f.drop(), TOO_FEW);
        due("new: same", f.same(), false);
        RationalFormulas other = formula("x x");
        due("new: objects share nothing", f.depth(), 0);
        due("new: the other one", other.depth(), 2);
    }

    private static void promise2Variable() {
        RationalFormulas f = new RationalFormulas();
        for (int i = 1; i <= 6; i++) {
            due("variable", f.variable(), i);
            dueTop("variable", f, poly(0, 1), poly(1), 1);
        }
        due("variable on 6", f.variable(), FULL);
        due("variable on 6: depth", f.depth(), 6);
        due("drop", f.drop(), 5);
        due("variable after drop", f.variable(), 6);
        RationalFormulas again = formula("5 x + x 7 + / 0 *");
        due("drop", again.drop(), 0);
        due("variable where another formula was", again.variable(), 1);
        dueTop("variable where another formula was", again, poly(0, 1), poly(1), 1);
    }

    private static void promise3Constant() {
        for (int c = 0; c <= 100; c++) {
            RationalFormulas f = new RationalFormulas();
            due("constant " + c, f.constant(c), 1);
            dueTop("constant " + c, f, poly(c), poly(1), 0);
        }
        RationalFormulas f = new RationalFormulas();
        due("constant 101", f.constant(101), BAD_ARG);
        due("constant -1", f.constant(-1), BAD_ARG);
        due("constant least", f.constant(Integer.MIN_VALUE), BAD_ARG);
        due("constant greatest", f.constant(Integer.MAX_VALUE), BAD_ARG);
        due("refused constant: depth", f.depth(), 0);
        for (int i = 1; i <= 6; i++) {
            due("constant", f.constant(10 + i), i);
        }
        due("constant on 6", f.constant(3), FULL);
        due("constant -1 on 6", f.constant(-1), BAD_ARG);
        due("constant 101 on 6", f.constant(101), BAD_ARG);
        due("refused constant: depth", f.depth(), 6);
        dueTop("refused constant", f, poly(16), poly(1), 0);
    }

    private static void promise4Apply() {
        dueFormula("x 3 +", poly(3, 1), poly(1), 1);
        dueFormula("x 3 -", poly(98, 1), poly(1), 1);
        dueFormula("3 x -", poly(3, 100), poly(1), 1);
        dueFormula("x 3 *", poly(0, 3), poly(1), 1);
        dueFormula("x 3 /", poly(0, 34), poly(1), 1);
        dueFormula("3 x /", poly(3), poly(0, 1), 1);
        dueFormula("0 x /", poly(0), poly(1), 1);
        dueFormula("100 100 *", poly(1), poly(1), 0);
        dueFormula("1 x / 1 x 1 + / +", poly(1, 2), poly(0, 1, 1), 2);
        dueFormula("1 x / 1 x 1 + / -", poly(1), poly(0, 1, 1), 2);
        dueFormula("1 x / 1 x / +", poly(2), poly(0, 1), 2);
        dueFormula("1 x / 1 x / -", poly(0), poly(1), 2);
        dueFormula("x x 1 + / x 1 + x 2 + / *", poly(0, 1), poly(2, 1), 4);
        dueFormula("x x 1 + / x x 2 + / /", poly(2, 1), poly(1, 1), 4);
        RationalFormulas f = formula("7 x 1");
        due("apply: answer", f.apply(ADD), 2);
        dueTop("apply: pushed", f, poly(1, 1), poly(1), 1);
        f.drop();
        dueTop("apply: what is below stays", f, poly(7), poly(1), 0);
        due("height 12 is not refused", formula("x ^3 ^2 x ^3 ^2").apply(MULTIPLY), 1);
    }

    private static void promise4ApplyRefused() {
        RationalFormulas empty = new RationalFormulas();
        RationalFormulas one = formula("x");
        RationalFormulas high = formula("x ^3 ^2 x + x ^3 ^2 x x - *");
        RationalFormulas zero = formula("x ^3 ^2 x x -");
        for (int op : new int[] {-1, 4, Integer.MIN_VALUE, Integer.MAX_VALUE}) {
            due("apply " + op + " on none", empty.apply(op), BAD_ARG);
            due("apply " + op + " on one", one.apply(op), BAD_ARG);
            due("apply " + op + " too high", high.apply(op), BAD_ARG);
            due("apply " + op + " with 0", zero.apply(op), BAD_ARG);
        }
        for (int op = ADD; op <= DIVIDE; op++) {
            due("apply " + op + " on none", empty.apply(op), TOO_FEW);
            due("apply " + op + " on one", one.apply(op), TOO_FEW);
            // G is 0 here, so that FULL is seen to be tested before NONE.
            due("apply " + op + " too high", high.apply(op), FULL);
        }
        due("quotient by 0", zero.apply(DIVIDE), NONE);
        due("0 by 0", formula("0 0").apply(DIVIDE), NONE);
        due("0 by 0 of 12", formula("x ^3 ^2 x ^3 ^2 0 *").apply(DIVIDE), NONE);
        due("too few: depth", empty.depth(), 0);
        dueTop("too few", one, poly(0, 1), poly(1), 1);
        dueTop("too high", high, poly(0), poly(1), 8);
        high.drop();
        dueTop("too high, below", high, poly(0, 1, 0, 0, 0, 0, 1), poly(1), 7);
        due("quotient by 0: depth", zero.depth(), 2);
        dueTop("quotient by 0", zero, poly(0), poly(1), 2);
        zero.drop();
        dueTop("quotient by 0, below", zero, poly(0, 0, 0, 0, 0, 0, 1), poly(1), 6);
    }

    private static void promise5Power() {
        dueFormula("x 1 + ^0", poly(1), poly(1), 0);
        dueFormula("x 1 + ^1", poly(1, 1), poly(1), 1);
        dueFormula("x 1 + ^2", poly(1, 2, 1), poly(1), 2);
        dueFormula("x 1 + ^3", poly(1, 3, 3, 1), poly(1), 3);
        dueFormula("0 ^0", poly(1), poly(1), 0);
        dueFormula("x x - ^0", poly(1), poly(1), 0);
        dueFormula("x x - ^3", poly(0), poly(1), 6);
        dueFormula("7 ^3", poly(40), poly(1), 0);
        dueFormula("2 x * x 1 + / ^3", poly(0, 0, 0, 8), poly(1, 3, 3, 1), 6);
        dueFormula("x ^2 ^3 ^2", poly(0, 0, 0, 0, 0, 0, 0, 0, 0, 0, 0, 0, 1), poly(1), 12);
        dueFormula("x ^2 ^2 ^3", poly(0, 0, 0, 0, 0, 0, 0, 0, 0, 0, 0, 0, 1), poly(1), 12);
        RationalFormulas empty = new RationalFormulas();
        RationalFormulas five = formula("9 x ^2 ^2 x *");
        for (int n : new int[] {-1, 4, Integer.MIN_VALUE, Integer.MAX_VALUE}) {
            due("power " + n + " on none", empty.power(n), BAD_ARG);
            due("power " + n, five.power(n), BAD_ARG);
        }
        for (int n = 0; n <= 3; n++) {
            due("power " + n + " on none", empty.power(n), TOO_FEW);
        }
        due("power 3 of height 5", five.power(3), FULL);
        due("power 2 of height 7", formula("x ^3 ^2 x +").power(2), FULL);
        dueTop("refused power", five, poly(0, 0, 0, 0, 0, 1), poly(1), 5);
        due("power 1: answer", five.power(1), 2);
        due("power 2: answer", five.power(2), 2);
        due("power 1 of height 10", five.power(1), 2);
        due("power 0 of height 10", five.power(0), 2);
        five.drop();
        dueTop("power: what is below stays", five, poly(9), poly(1), 0);
    }

    private static void promise6Derive() {
        dueFormula("x '", poly(1), poly(1), 2);
        dueFormula("5 '", poly(0), poly(1), 0);
        dueFormula("x ^3 '", poly(0, 0, 3), poly(1), 6);
        dueFormula("1 x / '", poly(100), poly(0, 0, 1), 2);
        dueFormula("x x 3 - / '", poly(98), poly(9, 95, 1), 4);
        dueFormula("x ^3 ^2 '", poly(0, 0, 0, 0, 0, 6), poly(1), 12);
        dueFormula("x ^3 ' '", poly(0, 6), poly(1), 12);
        dueFormula("1 x 1 + ^3 / '", poly(98), poly(1, 4, 6, 4, 1), 6);
        dueFormula("x x - '", poly(0), poly(1), 4);
        due("derive on none", new RationalFormulas().derive(), TOO_FEW);
        RationalFormulas seven = formula("9 x ^3 ^2 x *");
        due("derive of height 7", seven.derive(), FULL);
        dueTop("refused derive", seven, poly(0, 0, 0, 0, 0, 0, 0, 1), poly(1), 7);
        due("height counts, not degree", formula("x ^3 ^2 x x - +").derive(), FULL);
        RationalFormulas two = formula("9 x");
        due("derive: answer", two.derive(), 2);
        two.drop();
        dueTop("derive: what is below stays", two, poly(9), poly(1), 0);
    }

    private static void promise7Dup() {
        RationalFormulas f = new RationalFormulas();
        due("dup on none", f.dup(), TOO_FEW);
        due("refused dup: depth", f.depth(), 0);
        push(f, "x 2 + x 5 - /");
        for (int i = 2; i <= 6; i++) {
            due("dup", f.dup(), i);
            dueTop("dup", f, poly(2, 1), poly(96, 1), 2);
        }
        due("dup on 6", f.dup(), FULL);
        due("refused dup: depth", f.depth(), 6);
        push(f, "^2");
        f.drop();
        dueTop("dup: the two are apart", f, poly(2, 1), poly(96, 1), 2);
    }

    private static void promise8Drop() {
        RationalFormulas f = new RationalFormulas();
        due("drop on none", f.drop(), TOO_FEW);
        due("refused drop: depth", f.depth(), 0);
        push(f, "3 x x 1 +");
        due("drop", f.drop(), 2);
        dueTop("drop", f, poly(0, 1), poly(1), 1);
        due("drop", f.drop(), 1);
        dueTop("drop", f, poly(3), poly(1), 0);
        due("drop", f.drop(), 0);
        due("drop once more", f.drop(), TOO_FEW);
    }

    private static void promise9Swap() {
        RationalFormulas f = new RationalFormulas();
        due("swap on none", f.swap(), TOO_FEW);
        push(f, "8");
        due("swap on one", f.swap(), TOO_FEW);
        dueTop("refused swap", f, poly(8), poly(1), 0);
        push(f, "1 x / x 4 + ^2");
        due("swap", f.swap(), 3);
        dueTop("swap: top", f, poly(1), poly(0, 1), 1);
        f.drop();
        dueTop("swap: second", f, poly(16, 8, 1), poly(1), 2);
        due("swap of two", f.swap(), 2);
        dueTop("swap of two: top", f, poly(8), poly(1), 0);
        f.drop();
        dueTop("swap of two: second", f, poly(16, 8, 1), poly(1), 2);
    }

    private static void promise10Depth() {
        RationalFormulas f = new RationalFormulas();
        due("depth of none", f.depth(), 0);
        push(f, "x");
        due("depth of 1", f.depth(), 1);
        push(f, "3 x 1 x 5");
        due("depth of 6", f.depth(), 6);
        f.variable();
        due("depth after a refusal", f.depth(), 6);
        push(f, "+");
        due("depth after apply", f.depth(), 5);
        push(f, "^2 '");
        due("depth after power and derive", f.depth(), 5);
    }

    private static void promise11Height() {
        due("height of none", new RationalFormulas().height(), NONE);
        due("height of x", formula("x").height(), 1);
        due("height of a constant", formula("50").height(), 0);
        due("height of a sum", formula("x ^2 x ^3 +").height(), 5);
        due("height of a difference", formula("x x -").height(), 2);
        due("height of a product", formula("x 0 *").height(), 1);
        due("height of a quotient", formula("x x /").height(), 2);
        due("height of a power", formula("x x + ^3").height(), 6);
        due("height of a power 0", formula("x x + ^0").height(), 0);
        due("height of a derivative", formula("x ^2 '").height(), 4);
        due("height of the top alone", formula("x ^3 x").height(), 1);
    }

    private static void promise12Value() {
        RationalFormulas empty = new RationalFormulas();
        RationalFormulas f = formula("x 1 + x 3 - /");
        for (int a : new int[] {-1, 101, Integer.MIN_VALUE, Integer.MAX_VALUE}) {
            due("value at " + a + " of none", empty.value(a), BAD_ARG);
            due("value at " + a, f.value(a), BAD_ARG);
        }
        due("value of none", empty.value(0), NONE);
        due("value of none", empty.value(100), NONE);
        due("value at 0", f.value(0), 67);
        due("value at 100", f.value(100), 0);
        due("value at 3", f.value(3), NONE);
        due("value at 4", f.value(4), 5);
        due("value at 5", f.value(5), 3);
        due("value in lowest terms", formula("x ^2 1 - x 1 - /").value(1), 2);
        due("value of 1 / (1 / x) at 0", formula("1 1 x / /").value(0), 0);
        for (int a = 1; a <= 100; a++) {
            due("a times 1 / a", formula("1 x /").value(a) * a % 101, 1);
        }
        dueTop("value changes nothing", f, poly(1, 1), poly(98, 1), 2);
    }

    private static void promise13Slope() {
        RationalFormulas empty = new RationalFormulas();
        RationalFormulas f = formula("x 1 + x 3 - /");
        for (int a : new int[] {-1, 101, Integer.MIN_VALUE, Integer.MAX_VALUE}) {
            due("slope at " + a + " of none", empty.slope(a), BAD_ARG);
            due("slope at " + a, f.slope(a), BAD_ARG);
        }
        due("slope of none", empty.slope(0), NONE);
        due("slope at 3", f.slope(3), NONE);
        due("slope at 4", f.slope(4), 97);
        due("slope at 5", f.slope(5), 100);
        due("slope at 100", f.slope(100), 25);
        dueTop("slope changes nothing", f, poly(1, 1), poly(98, 1), 2);
        due("slope of a constant", formula("9").slope(0), 0);
        due("slope of x", formula("x").slope(100), 1);
        due("slope of x^3 at 0", formula("x ^3").slope(0), 0);
        due("slope of x^3 at 10", formula("x ^3").slope(10), 98);
        RationalFormulas high = formula("x 1 + ^3 ^2 x 2 + ^3 ^2 /");
        // 6 (x + 1)^5 / (x + 2)^7 at 1 and at 99
        due("slope of height 12", high.slope(1), 6 * 32 * inverse(2187) % 101);
        due("slope of height 12 at its pole", high.slope(99), NONE);
        due("slope keeps the height", high.height(), 12);
        RationalFormulas below = formula("1 x 1 + ^3 ^2 ^2 /");
        // -12 / (x + 1)^13, from a derivative whose denominator has the degree 24 at first
        due("slope over degree 24", below.slope(1), 89 * inverse(8192) % 101);
        due("slope over degree 24 at 0", below.slope(0), 89);
    }

    private static int inverse(int a) {
        int power = 1;
        for (int i = 0; i < 99; i++) {
            power = power * (a % 101) % 101;
        }
        return power;
    }

    private static void promise14Same() {
        due("same of none", new RationalFormulas().same(), false);
        due("same of one", formula("x").same(), false);
        due("same of one 0", formula("0").same(), false);
        due("x and x", formula("x x").same(), true);
        due("x and 1", formula("x 1").same(), false);
        due("x and 1 / x", formula("x 1 x /").same(), false);
        due("x and x^2 / x", formula("x x ^2 x /").same(), true);
        due("1 / x and 2 / (2 x)", formula("1 x / 2 2 x * /").same(), true);
        due("1 / x and 2 / x", formula("1 x / 2 x /").same(), false);
        due("0 and x - x", formula("0 x x -").same(), true);
        due("0 and 0 / x", formula("0 0 x /").same(), true);
        due("1 and x / x", formula("1 x x /").same(), true);
        due("1 / x and 1 / (x + 1)", formula("1 x / 1 x 1 + /").same(), false);
        due("x^12 and x^11", formula("x ^3 ^2 ^2 x ^3 ^3 x ^2 *").same(), false);
        due("the two topmost", formula("x x 1").same(), false);
        due("the two topmost", formula("1 x x").same(), true);
        RationalFormulas f = formula("x 1");
        f.same();
        dueTop("same changes nothing", f, poly(1), poly(1), 0);
        due("same changes nothing", f.depth(), 2);
    }

    private static void promise15DegreeAbove() {
        due("degreeAbove of none", new RationalFormulas().degreeAbove(), NONE);
        due("degreeAbove of 0", formula("0").degreeAbove(), 0);
        due("degreeAbove of 7", formula("7").degreeAbove(), 0);
        due("degreeAbove of x - x", formula("x x -").degreeAbove(), 0);
        due("degreeAbove of 1 / x", formula("1 x /").degreeAbove(), 0);
        due("degreeAbove of x^12", formula("x ^3 ^2 ^2").degreeAbove(), 12);
        due("degreeAbove in lowest terms", formula("x ^3 x /").degreeAbove(), 2);
    }

    private static void promise16DegreeBelow() {
        due("degreeBelow of none", new RationalFormulas().degreeBelow(), NONE);
        due("degreeBelow of 0", formula("0").degreeBelow(), 0);
        due("degreeBelow of 0 / x^2", formula("0 x ^2 /").degreeBelow(), 0);
        due("degreeBelow of x", formula("x").degreeBelow(), 0);
        due("degreeBelow of 1 / x", formula("1 x /").degreeBelow(), 1);
        due("degreeBelow of 1 / x^12", formula("1 x ^3 ^2 ^2 /").degreeBelow(), 12);
        due("degreeBelow in lowest terms", formula("x x ^3 /").degreeBelow(), 2);
    }

    private static void promise17Coefficient() {
        RationalFormulas empty = new RationalFormulas();
        RationalFormulas f = formula("5 x * 2 + 3 x * x ^2 + 7 - /");
        for (int k : new int[] {-1, 25, Integer.MIN_VALUE, Integer.MAX_VALUE}) {
            due("coefficient " + k + " of none", empty.coefficient(k, 0), BAD_ARG);
            due("coefficient " + k + " above", f.coefficient(k, 0), BAD_ARG);
            due("coefficient " + k + " below", f.coefficient(k, 1), BAD_ARG);
        }
        due("coefficient 0 of none", empty.coefficient(0, 0), NONE);
        due("coefficient 24 of none", empty.coefficient(24, 1), NONE);
        dueTop("coefficient", f, poly(2, 5), poly(94, 3, 1), 4);
        for (int below : new int[] {1, 2, -1, Integer.MIN_VALUE, Integer.MAX_VALUE}) {
            due("below = " + below, f.coefficient(0, below), 94);
        }
        due("coefficient 24 above", f.coefficient(24, 0), 0);
        due("coefficient 24 below", f.coefficient(24, 1), 0);
        due("coefficient of 0, below", formula("0").coefficient(0, 1), 1);
    }

    private static void promise18Zeros() {
        due("zeros of none", new RationalFormulas().zeros(), NONE);
        due("zeros of 0", formula("0").zeros(), 101);
        due("zeros of 0 / x", formula("0 x /").zeros(), 101);
        due("zeros of 1", formula("1").zeros(), 0);
        due("zeros of x", formula("x").zeros(), 1);
        due("zeros of x - 100", formula("x 100 -").zeros(), 1);
        due("zeros of x^3", formula("x ^3").zeros(), 1);
        due("zeros of x^2 + 1", formula("x ^2 1 +").zeros(), 2);
        due("zeros of x^2 - 2", formula("x ^2 2 -").zeros(), 0);
        due("zeros of x^2 / x", formula("x ^2 x /").zeros(), 1);
        due("zeros of x / x^2", formula("x x ^2 /").zeros(), 0);
        due("zeros of (x - 1)(x - 2)(x - 3)", formula("x 1 - x 2 - * x 3 - *").zeros(), 3);
    }

    private static void promise19Poles() {
        due("poles of none", new RationalFormulas().poles(), NONE);
        due("poles of 0", formula("0").poles(), 0);
        due("poles of 0 / x", formula("0 x /").poles(), 0);
        due("poles of x", formula("x").poles(), 0);
        due("poles of 1 / x", formula("1 x /").poles(), 1);
        due("poles of 1 / (x - 100)", formula("1 x 100 - /").poles(), 1);
        due("poles of 1 / x^3", formula("1 x ^3 /").poles(), 1);
        due("poles of 1 / (x^2 + 1)", formula("1 x ^2 1 + /").poles(), 2);
        due("poles of 1 / (x^2 - 2)", formula("1 x ^2 2 - /").poles(), 0);
        due("poles of x^2 / x", formula("x ^2 x /").poles(), 0);
        due("poles of x / x^2", formula("x x ^2 /").poles(), 1);
        due("poles of (x - 1) / ((x - 1)(x - 2)(x - 3))", formula("x 1 - x 1 - x 2 - * x 3 - * /").poles(), 2);
    }

    /** Each question, asked first after a drop, is about the new top and not about what was made last. */
    private static void questionsAfterDrop() {
        due("dropped, then dup", afterDrop().dup(), 2);
        RationalFormulas dup = afterDrop();
        dup.dup();
        dueTop("dropped, then dup", dup, poly(98, 1), poly(1, 0, 1), 3);
        due("dropped, then height", afterDrop().height(), 3);
        due("dropped, then value", afterDrop().value(3), 0);
        due("dropped, then slope", afterDrop().slope(3), 91);
        due("dropped, then same", afterDrop().same(), false);
        due("dropped, then degreeAbove", afterDrop().degreeAbove(), 1);
        due("dropped, then degreeBelow", afterDrop().degreeBelow(), 2);
        due("dropped, then coefficient", afterDrop().coefficient(0, 0), 98);
        due("dropped, then zeros", afterDrop().zeros(), 1);
        due("dropped, then poles", afterDrop().poles(), 2);
    }

    private static RationalFormulas afterDrop() {
        RationalFormulas f = formula("x 3 - x ^2 1 + / 7");
        due("drop", f.drop(), 1);
        return f;
    }
}
