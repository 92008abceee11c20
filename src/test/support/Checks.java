/** What the tests share: formulas and calls written as text, and the comparison of answers and of whole stacks. */
public class Checks {
    protected static final int BAD_ARG = RationalFormulas.BAD_ARG;
    protected static final int FULL = RationalFormulas.FULL;
    protected static final int TOO_FEW = RationalFormulas.TOO_FEW;
    protected static final int NONE = RationalFormulas.NONE;
    protected static final int ADD = 0;
    protected static final int SUBTRACT = 1;
    protected static final int MULTIPLY = 2;
    protected static final int DIVIDE = 3;

    private static final int LEAST = Integer.MIN_VALUE;
    private static final int GREATEST = Integer.MAX_VALUE;

    private static String sentence = "";
    private static int wrong = 0;

    protected Checks() {
    }

    /** Names the sentence of the document that the checks after it are about. */
    protected static void sentence(String text) {
        sentence = "[" + text + "] ";
    }

    protected static void due(String what, int got, int want) {
        if (got != want) {
            fault(what + ": answered " + got + ", due is " + want);
        }
    }

    protected static void due(String what, boolean got, boolean want) {
        due(what, got ? 1 : 0, want ? 1 : 0);
    }

    private static void fault(String text) {
        wrong++;
        System.out.println(sentence + text);
    }

    /** Says how the test went; ends with exit code 1 if an answer was not the one that is due. */
    protected static void finish() {
        System.out.println(wrong == 0 ? "all answers are as due" : wrong + " answers are not as due");
        if (wrong != 0) {
            System.exit(1);
        }
    }

    // Formulas and calls as text

    /** An object on which the words were pushed. */
    protected static RationalFormulas formula(String words) {
        RationalFormulas f = new RationalFormulas();
        push(f, words);
        return f;
    }

    /** Formulas are written behind their operands: x, numbers, + - * /, ^n, ' (derive); dup, drop and swap too. */
    protected static void push(RationalFormulas f, String words) {
        if (words.isEmpty()) {
            return;
        }
        for (String word : words.split(" ")) {
            int answer = pushWord(f, word);
            if (answer < 0) {
                fault("'" + word + "' in '" + words + "' was refused with " + answer);
            }
        }
    }

    private static int pushWord(RationalFormulas f, String word) {
        switch (word) {
            case "x": return f.variable();
            case "+": return f.apply(ADD);
            case "-": return f.apply(SUBTRACT);
            case "*": return f.apply(MULTIPLY);
            case "/": return f.apply(DIVIDE);
            case "'": return f.derive();
            case "dup": return f.dup();
            case "drop": return f.drop();
            case "swap": return f.swap();
            default:
                return word.charAt(0) == '^'
                        ? f.power(Integer.parseInt(word.substring(1)))
                        : f.constant(Integer.parseInt(word));
        }
    }

    /** Makes a call written as in the document, such as coefficient(24, 1); true counts 1, false 0. */
    protected static int call(RationalFormulas f, String call) {
        int open = call.indexOf('(');
        String name = call.substring(0, open);
        String[] arguments = call.substring(open + 1, call.length() - 1).split(", ");
        int first = arguments[0].isEmpty() ? 0 : Integer.parseInt(arguments[0]);
        switch (name) {
            case "variable": return f.variable();
            case "constant": return f.constant(first);
            case "apply": return f.apply(first);
            case "power": return f.power(first);
            case "derive": return f.derive();
            case "dup": return f.dup();
            case "drop": return f.drop();
            case "swap": return f.swap();
            case "depth": return f.depth();
            case "height": return f.height();
            case "value": return f.value(first);
            case "slope": return f.slope(first);
            case "same": return f.same() ? 1 : 0;
            case "degreeAbove": return f.degreeAbove();
            case "degreeBelow": return f.degreeBelow();
            case "coefficient": return f.coefficient(first, Integer.parseInt(arguments[1]));
            case "zeros": return f.zeros();
            case "poles": return f.poles();
            default: throw new IllegalArgumentException(call);
        }
    }

    /** The words of x^height. */
    protected static String ofHeight(int height) {
        return height == 0 ? "1" : "x" + " x *".repeat(height - 1);
    }

    /** The words of a formula that is the same as 0 but has the height. */
    protected static String zeroOfHeight(int height) {
        return "0" + " x *".repeat(height);
    }

    /** Arguments on both sides of a range: the nearest, the farthest, and such as look good when cut to fewer bits. */
    protected static int[] outside(int low, int high) {
        return new int[] {
            low - 1, high + 1, low - 2, high + 2, low - 101, high + 101, low - 256, low + 256, high + 256,
            low - 65536, low + 65536, high + 65536, LEAST, LEAST + 1, LEAST + high, GREATEST, GREATEST - 1};
    }

    // Comparison of formulas and stacks

    /** Checks all the coefficients, the degrees and the height of the top; polynomials begin at x^0. */
    protected static void dueTop(String what, RationalFormulas f, int[] above, int[] below, int height) {
        for (int k = 0; k <= 24; k++) {
            due(what + ": above, x^" + k, f.coefficient(k, 0), k < above.length ? above[k] : 0);
            due(what + ": below, x^" + k, f.coefficient(k, 1), k < below.length ? below[k] : 0);
        }
        due(what + ": degree above", f.degreeAbove(), above.length - 1);
        due(what + ": degree below", f.degreeBelow(), below.length - 1);
        due(what + ": height", f.height(), height);
    }

    protected static void dueFormula(String words, int[] above, int[] below, int height) {
        dueTop(words, formula(words), above, below, height);
    }

    protected static int[] poly(int... coefficients) {
        return coefficients;
    }

    /** The call has the answer, and the stack is afterwards what it was: a question, or a call that is refused. */
    protected static void dueKept(String words, String call, int want) {
        dueChange(words, call, want, words);
    }

    /** The call has the answer, and the stack is afterwards the one that wordsAfter make. */
    protected static void dueChange(String words, String call, int want, String wordsAfter) {
        RationalFormulas f = formula(words);
        due("after '" + words + "': " + call, call(f, call), want);
        String got = emptied(f);
        String wanted = emptied(formula(wordsAfter));
        if (!got.equals(wanted)) {
            fault("after '" + words + "': " + call + " left the stack " + got + ", due is " + wanted);
        }
    }

    /** All that the stack holds, from the top on; the stack is empty after it. */
    private static String emptied(RationalFormulas f) {
        StringBuilder all = new StringBuilder();
        int depth = f.depth();
        all.append(depth);
        for (int i = 0; i < depth; i++) {
            all.append(" [height ").append(f.height()).append(f.same() ? ", same as the next:" : ":");
            appendPolynomial(all, f, 0);
            all.append(" /");
            appendPolynomial(all, f, 1);
            all.append(']');
            f.drop();
        }
        return all.append(" then ").append(f.depth()).toString();
    }

    private static void appendPolynomial(StringBuilder all, RationalFormulas f, int below) {
        int degree = below == 0 ? f.degreeAbove() : f.degreeBelow();
        all.append(" degree ").append(degree);
        for (int k = 0; k <= 24; k++) {
            int coefficient = f.coefficient(k, below);
            if (coefficient != 0) {
                all.append(' ').append(coefficient).append("x^").append(k);
            }
        }
    }
}
