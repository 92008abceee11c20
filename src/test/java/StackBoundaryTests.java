/** The boundary cases that promises 1 to 11 name, a method for each sentence. */
public final class StackBoundaryTests extends Checks {
    /** Stacks of 0 to 6 formulas, no two of them the same, with the heights 0, 1, 2, 0, 1, 4. */
    private static final String[] STACKS = {
        "",
        "3",
        "3 1 x /",
        "3 1 x / x ^2",
        "3 1 x / x ^2 0",
        "3 1 x / x ^2 0 x 5 +",
        "3 1 x / x ^2 0 x 5 + x ^2 '"};

    public static void main(String[] args) {
        newObjectIsEmpty();
        variableOnEachDepth();
        variableWhenFull();
        constantOutsideItsRange();
        constantAtItsEdges();
        constantWhenFull();
        constantBadArgBeforeFull();
        applyBadOperation();
        applyOperationsAtTheEdges();
        applyTooFew();
        applyTooHigh();
        applyQuotientByZero();
        applyOrder();
        applyOnFullStack();
        powerBadExponent();
        powerOnEmptyStack();
        powerTooHigh();
        powerOrder();
        powerOnFullStack();
        deriveOnEmptyStack();
        deriveTooHigh();
        deriveOnFullStack();
        dupOnEmptyStack();
        dupWhenFull();
        dropOnEmptyStack();
        dropToEmpty();
        swapTooFew();
        swapOnTwoAndOnSix();
        depthOnEachDepth();
        heightOnEmptyStack();
        heightAtItsLimits();
        finish();
    }

    private static void newObjectIsEmpty() {
        sentence("1: The stack is empty");
        dueKept("", "depth()", 0);
        dueKept("", "height()", NONE);
        dueKept("", "drop()", TOO_FEW);
        due("a second object after a first one is used", afterAnother().depth(), 0);
        due("a second object after a first one is used", afterAnother().drop(), TOO_FEW);
    }

    private static RationalFormulas afterAnother() {
        formula("x x x x x x");
        return new RationalFormulas();
    }

    private static void variableOnEachDepth() {
        sentence("2: Pushes x ... Otherwise the number on the stack");
        for (int depth = 0; depth <= 5; depth++) {
            RationalFormulas f = formula(STACKS[depth]);
            due("variable() on " + depth, f.variable(), depth + 1);
            dueTop("variable() on " + depth, f, poly(0, 1), poly(1), 1);
            due("drop() after variable() on " + depth, f.drop(), depth);
        }
        dueChange("x x - 1 x / drop drop", "variable()", 1, "x");
    }

    private static void variableWhenFull() {
        sentence("2: FULL if the stack holds 6");
        dueKept(STACKS[6], "variable()", FULL);
        dueKept("x x x x x x", "variable()", FULL);
        dueChange(STACKS[5], "variable()", 6, STACKS[5] + " x");
        dueChange(STACKS[6] + " drop", "variable()", 6, STACKS[5] + " x");
        dueChange(STACKS[6] + " *", "variable()", 6, STACKS[6] + " * x");
    }

    private static void constantOutsideItsRange() {
        sentence("3: c not 0 to 100 answers BAD_ARG");
        for (int depth = 0; depth <= 5; depth++) {
            for (int c : outside(0, 100)) {
                dueKept(STACKS[depth], "constant(" + c + ")", BAD_ARG);
            }
        }
    }

    private static void constantAtItsEdges() {
        sentence("3: Pushes constant c ... Otherwise the number on the stack");
        for (int depth = 0; depth <= 5; depth++) {
            for (int c : new int[] {0, 1, 99, 100}) {
                RationalFormulas f = formula(STACKS[depth]);
                due("constant(" + c + ") on " + depth, f.constant(c), depth + 1);
                dueTop("constant(" + c + ") on " + depth, f, poly(c), poly(1), 0);
                due("drop() after constant(" + c + ") on " + depth, f.drop(), depth);
            }
        }
        dueChange("1 x / x ^3 drop drop", "constant(0)", 1, "0");
    }

    private static void constantWhenFull() {
        sentence("3: FULL as for variable");
        for (int c : new int[] {0, 1, 50, 99, 100}) {
            dueKept(STACKS[6], "constant(" + c + ")", FULL);
            dueChange(STACKS[5], "constant(" + c + ")", 6, STACKS[5] + " " + c);
        }
    }

    private static void constantBadArgBeforeFull() {
        sentence("3: Tested in this order: BAD_ARG; FULL");
        for (int c : outside(0, 100)) {
            dueKept(STACKS[6], "constant(" + c + ")", BAD_ARG);
        }
    }

    private static void applyBadOperation() {
        sentence("4: op not 0 to 3 answers BAD_ARG");
        for (int op : outside(0, 3)) {
            dueKept("5 x 1 x /", "apply(" + op + ")", BAD_ARG);
            dueKept(STACKS[6], "apply(" + op + ")", BAD_ARG);
        }
    }

    private static void applyOperationsAtTheEdges() {
        sentence("4: 0: F + G, 1: F - G, 2: F G, 3: F / G (G the top)");
        dueFormula("9 x 4 +", poly(4, 1), poly(1), 1);
        dueFormula("9 x 4 -", poly(97, 1), poly(1), 1);
        dueFormula("9 4 x -", poly(4, 100), poly(1), 1);
        dueFormula("9 x 4 *", poly(0, 4), poly(1), 1);
        dueFormula("9 x 4 /", poly(0, 76), poly(1), 1);
        dueFormula("9 4 x /", poly(4), poly(0, 1), 1);
        dueChange("9 8 2", "apply(0)", 2, "9 10");
        dueChange("9 8 2", "apply(1)", 2, "9 6");
        dueChange("9 8 2", "apply(2)", 2, "9 16");
        dueChange("9 8 2", "apply(3)", 2, "9 4");
    }

    private static void applyTooFew() {
        sentence("4: fewer than two answers TOO_FEW");
        for (int op = ADD; op <= DIVIDE; op++) {
            String call = "apply(" + op + ")";
            dueKept("", call, TOO_FEW);
            dueKept("x", call, TOO_FEW);
            dueKept("1 x /", call, TOO_FEW);
            dueKept("x x drop", call, TOO_FEW);
            dueKept("x x drop drop", call, TOO_FEW);
        }
        dueChange("8 2", "apply(0)", 1, "10");
        dueChange("8 2", "apply(1)", 1, "6");
        dueChange("8 2", "apply(2)", 1, "16");
        dueChange("8 2", "apply(3)", 1, "4");
    }

    private static void applyTooHigh() {
        sentence("4: the height would be above 12 answers FULL");
        for (int op = ADD; op <= DIVIDE; op++) {
            String call = "apply(" + op + ")";
            dueKept("7 x ^3 ^2 ^2 x", call, FULL);
            dueKept("7 x x ^3 ^2 ^2", call, FULL);
            dueKept("7 x ^3 ^2 ^2 dup", call, FULL);
            dueKept("7 x ^3 ^2 dup x *", call, FULL);
            // The degree of what would come out is not what counts.
            dueKept("7 x ^3 ^2 ^2 x x /", call, FULL);
            dueKept("7 0 x ^3 ^2 ^2 * x", call, FULL);
            due("height 6 and 6: " + call, formula("7 x ^3 ^2 dup").apply(op), 2);
            due("height 12 and 0: " + call, formula("7 x ^3 ^2 ^2 5").apply(op), 2);
            due("height 0 and 12: " + call, formula("7 5 x ^3 ^2 ^2").apply(op), 2);
        }
        dueFormula("x ^3 ^2 ^2 5 +", poly(5, 0, 0, 0, 0, 0, 0, 0, 0, 0, 0, 0, 1), poly(1), 12);
        dueFormula("5 x ^3 ^2 ^2 /", poly(5), poly(0, 0, 0, 0, 0, 0, 0, 0, 0, 0, 0, 0, 1), 12);
    }

    private static void applyQuotientByZero() {
        sentence("4: op is 3 and G is the same as 0 answers NONE");
        for (String zero : new String[] {"0", "x x -", "0 x /", "3 '", "100 1 +", zeroOfHeight(11)}) {
            dueKept("7 x " + zero, "apply(3)", NONE);
            dueKept("7 0 " + zero, "apply(3)", NONE);
        }
        dueKept("7 5 " + zeroOfHeight(12), "apply(3)", NONE);
        dueChange("7 x 0", "apply(0)", 2, "7 x");
        dueChange("7 x 0", "apply(1)", 2, "7 x");
        dueChange("7 5 0", "apply(2)", 2, "7 0");
        // It is G alone that must not be 0.
        dueChange("7 0 5", "apply(3)", 2, "7 0");
        dueChange("7 5 1", "apply(3)", 2, "7 5");
        dueChange("7 5 100", "apply(3)", 2, "7 96");
    }

    private static void applyOrder() {
        sentence("4: Tested in this order: BAD_ARG; TOO_FEW; FULL; NONE");
        for (int op : outside(0, 3)) {
            String call = "apply(" + op + ")";
            dueKept("", call, BAD_ARG);
            dueKept("0", call, BAD_ARG);
            dueKept("x", call, BAD_ARG);
            dueKept("x ^3 ^2 ^2 x", call, BAD_ARG);
            dueKept("x 0", call, BAD_ARG);
            dueKept("x ^3 ^2 ^2 x x -", call, BAD_ARG);
        }
        dueKept("0", "apply(3)", TOO_FEW);
        dueKept("x ^3 ^2 ^2", "apply(3)", TOO_FEW);
        dueKept("x ^3 ^2 ^2", "apply(0)", TOO_FEW);
        dueKept(zeroOfHeight(12), "apply(3)", TOO_FEW);
        dueKept("x ^3 ^2 ^2 x x -", "apply(3)", FULL);
        dueKept("x " + zeroOfHeight(12), "apply(3)", FULL);
        dueKept(zeroOfHeight(7) + " " + zeroOfHeight(6), "apply(3)", FULL);
        dueKept(zeroOfHeight(6) + " " + zeroOfHeight(6), "apply(3)", NONE);
    }

    private static void applyOnFullStack() {
        sentence("4: a stack of 6 is no reason to refuse");
        dueChange("1 2 3 4 8 2", "apply(0)", 5, "1 2 3 4 10");
        dueChange("1 2 3 4 8 2", "apply(1)", 5, "1 2 3 4 6");
        dueChange("1 2 3 4 8 2", "apply(2)", 5, "1 2 3 4 16");
        dueChange("1 2 3 4 8 2", "apply(3)", 5, "1 2 3 4 4");
        dueKept("1 2 3 4 8 0", "apply(3)", NONE);
        dueKept("1 2 3 4 x ^3 ^2 ^2 x", "apply(1)", FULL);
    }

    private static void powerBadExponent() {
        sentence("5: n not 0 to 3 answers BAD_ARG");
        for (int n : outside(0, 3)) {
            dueKept("5 x", "power(" + n + ")", BAD_ARG);
            dueKept("5 0", "power(" + n + ")", BAD_ARG);
            dueKept(STACKS[6], "power(" + n + ")", BAD_ARG);
        }
        dueChange("5 2", "power(0)", 2, "5 1");
        dueChange("5 2", "power(1)", 2, "5 2");
        dueChange("5 2", "power(2)", 2, "5 4");
        dueChange("5 2", "power(3)", 2, "5 8");
    }

    private static void powerOnEmptyStack() {
        sentence("5: empty stack answers TOO_FEW");
        for (int n = 0; n <= 3; n++) {
            dueKept("", "power(" + n + ")", TOO_FEW);
            dueKept("x drop", "power(" + n + ")", TOO_FEW);
            dueChange("1", "power(" + n + ")", 1, "1");
        }
    }

    private static void powerTooHigh() {
        sentence("5: the height would be above 12 answers FULL");
        for (int height = 0; height <= 12; height++) {
            for (int n = 0; n <= 3; n++) {
                String call = "power(" + n + ")";
                if (n * height > 12) {
                    dueKept("7 " + ofHeight(height), call, FULL);
                    dueKept("7 " + zeroOfHeight(height), call, FULL);
                    dueKept("7 1 " + ofHeight(height) + " /", call, FULL);
                } else {
                    dueChange("7 " + ofHeight(height), call, 2,
                            "7 " + (n == 0 ? "1" : ofHeight(n * height)));
                    dueChange("7 " + zeroOfHeight(height), call, 2,
                            "7 " + (n == 0 ? "1" : zeroOfHeight(n * height)));
                }
            }
        }
    }

    private static void powerOrder() {
        sentence("5: Tested in this order: BAD_ARG; TOO_FEW; FULL");
        for (int n : outside(0, 3)) {
            dueKept("", "power(" + n + ")", BAD_ARG);
            dueKept("x ^3 ^2 ^2", "power(" + n + ")", BAD_ARG);
        }
    }

    private static void powerOnFullStack() {
        sentence("5: a stack of 6 is no reason to refuse");
        dueChange("1 2 3 4 8 x", "power(3)", 6, "1 2 3 4 8 x ^3");
        dueChange("1 2 3 4 8 2", "power(3)", 6, "1 2 3 4 8 8");
        dueChange("1 2 3 4 8 x", "power(0)", 6, "1 2 3 4 8 1");
        dueKept("1 2 3 4 8 x ^3 ^2 ^2", "power(2)", FULL);
    }

    private static void deriveOnEmptyStack() {
        sentence("6: TOO_FEW if the stack is empty");
        dueKept("", "derive()", TOO_FEW);
        dueKept("x drop", "derive()", TOO_FEW);
        dueChange("5", "derive()", 1, "0");
    }

    private static void deriveTooHigh() {
        sentence("6: its height is twice that of the top; FULL if the height would be above 12");
        for (int height = 0; height <= 12; height++) {
            if (height > 6) {
                dueKept("7 " + ofHeight(height), "derive()", FULL);
                dueKept("7 " + zeroOfHeight(height), "derive()", FULL);
                dueKept("7 1 " + ofHeight(height) + " /", "derive()", FULL);
            } else {
                due("derive() at height " + height, formula("7 " + ofHeight(height)).derive(), 2);
                due("height after it", formula("7 " + ofHeight(height) + " '").height(), 2 * height);
                dueChange("7 " + zeroOfHeight(height), "derive()", 2, "7 " + zeroOfHeight(2 * height));
            }
        }
        dueFormula("x ^3 ^2 '", poly(0, 0, 0, 0, 0, 6), poly(1), 12);
        dueFormula("1 x ^3 ^2 / '", poly(95), poly(0, 0, 0, 0, 0, 0, 0, 1), 12);
        dueKept("x ^3 ' '", "derive()", FULL);
        due("degree 12 below", formula("1 x ^2 1 - x ^2 2 - * x ^2 3 - * / '").degreeBelow(), 12);
    }

    private static void deriveOnFullStack() {
        sentence("6: a stack of 6 is no reason to refuse");
        dueChange("1 2 3 4 8 5", "derive()", 6, "1 2 3 4 8 0");
        dueKept("1 2 3 4 8 x ^3 ^3", "derive()", FULL);
    }

    private static void dupOnEmptyStack() {
        sentence("7: empty stack answers TOO_FEW");
        dueKept("", "dup()", TOO_FEW);
        dueKept("x drop", "dup()", TOO_FEW);
        dueChange("x", "dup()", 2, "x x");
        dueChange("1 x /", "dup()", 2, "1 x / 1 x /");
        dueChange("x ^3 ^2 ^2", "dup()", 2, "x ^3 ^2 ^2 x ^3 ^2 ^2");
    }

    private static void dupWhenFull() {
        sentence("7: FULL as for variable");
        dueKept(STACKS[6], "dup()", FULL);
        dueKept("x x x x x x", "dup()", FULL);
        dueChange("1 2 3 4 x", "dup()", 6, "1 2 3 4 x x");
    }

    private static void dropOnEmptyStack() {
        sentence("8: TOO_FEW if the stack is empty");
        dueKept("", "drop()", TOO_FEW);
        dueKept("x drop", "drop()", TOO_FEW);
        dueKept("x x x x x x drop drop drop drop drop drop", "drop()", TOO_FEW);
    }

    private static void dropToEmpty() {
        sentence("8: Takes the top off ... Otherwise the number on the stack");
        for (int depth = 1; depth <= 6; depth++) {
            dueChange(STACKS[depth], "drop()", depth - 1, STACKS[depth - 1]);
        }
    }

    private static void swapTooFew() {
        sentence("9: TOO_FEW if there are fewer than two");
        dueKept("", "swap()", TOO_FEW);
        dueKept("x", "swap()", TOO_FEW);
        dueKept("3 x drop", "swap()", TOO_FEW);
        dueKept("3 x drop drop", "swap()", TOO_FEW);
    }

    private static void swapOnTwoAndOnSix() {
        sentence("9: The two topmost change places ... Otherwise the number on the stack");
        dueChange("3 x", "swap()", 2, "x 3");
        dueChange("x ^3 ^2 ^2 1 x /", "swap()", 2, "1 x / x ^3 ^2 ^2");
        dueChange("1 2 3 4 5 x", "swap()", 6, "1 2 3 4 x 5");
        dueChange("x 0 x *", "swap()", 2, "0 x * x");
        for (int depth = 2; depth <= 6; depth++) {
            dueChange(STACKS[depth] + " swap", "swap()", depth, STACKS[depth]);
        }
    }

    private static void depthOnEachDepth() {
        sentence("10: The number on the stack");
        for (int depth = 0; depth <= 6; depth++) {
            dueKept(STACKS[depth], "depth()", depth);
        }
    }

    private static void heightOnEmptyStack() {
        sentence("11: NONE if the stack is empty");
        dueKept("", "height()", NONE);
        dueKept("x drop", "height()", NONE);
        dueKept("5", "height()", 0);
    }

    private static void heightAtItsLimits() {
        sentence("11: The height of the top");
        for (int height = 0; height <= 12; height++) {
            dueKept("x ^2 " + ofHeight(height), "height()", height);
            dueKept("x ^2 " + zeroOfHeight(height), "height()", height);
            dueKept("x ^2 1 " + ofHeight(height) + " /", "height()", height);
        }
        int[] heights = {0, 1, 2, 0, 1, 4};
        for (int depth = 1; depth <= 6; depth++) {
            dueKept(STACKS[depth], "height()", heights[depth - 1]);
        }
    }
}
