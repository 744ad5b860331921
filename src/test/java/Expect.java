import java.util.Arrays;

/** What the tests share: calls with the answer that is due, and polynomials written as c(0), c(1), .. */
final class Expect {
    static final String INDEX = "throws.IndexOutOfBoundsException";
    static final String ARGUMENT = "throws.IllegalArgumentException";
    static final String STATE = "throws.IllegalStateException";
    static final String ARITHMETIC = "throws.ArithmeticException";
    static final String ELEMENT = "throws.NoSuchElementException";

    private static int right = 0;
    private static int wrong = 0;

    private Expect() { }

    interface Call {
        Object run();
    }

    /** The answer as a text; an exception by its very class, so that one of a subclass is seen. */
    static String outcome(Call call) {
        try {
            return String.valueOf(call.run());
        } catch (RuntimeException e) {
            return "throws." + e.getClass().getSimpleName();
        }
    }

    static void answer(String what, Object due, Call call) {
        String got = outcome(call);
        if (got.equals(String.valueOf(due))) {
            right++;
        } else {
            wrong++;
            System.out.println(what + " answered " + got + ", due is " + due);
        }
    }

    static void load(IntegerSplitter x, int r, int... c) {
        for (int k = 0; k < 8; k++) {
            x.put(r, k, k < c.length ? c[k] : 0);
        }
    }

    static IntegerSplitter loaded(int... c) {
        IntegerSplitter x = new IntegerSplitter();
        load(x, 0, c);
        return x;
    }

    static String register(IntegerSplitter x, int r) {
        int[] c = new int[8];
        for (int k = 0; k < 8; k++) {
            c[k] = x.coefficient(r, k);
        }
        return row(c);
    }

    static String factor(IntegerSplitter x, int i) {
        int[] c = new int[8];
        for (int k = 0; k < 8; k++) {
            c[k] = x.factorAt(i, k);
        }
        return row(c);
    }

    /** All that is told of factors: the unit, then each factor behind its multiplicity. */
    static String told(IntegerSplitter x) {
        StringBuilder text = new StringBuilder();
        text.append(x.unit());
        for (int i = 0; i < 8; i++) {
            int at = i;
            if (!outcome(() -> x.multiplicity(at)).equals(ELEMENT)) {
                text.append(' ').append(x.multiplicity(i)).append('*').append(factor(x, i));
            }
        }
        return text.toString();
    }

    static String all(IntegerSplitter x) {
        StringBuilder text = new StringBuilder();
        for (int r = 0; r < 4; r++) {
            text.append(register(x, r)).append(' ');
        }
        return text.append(told(x)).toString();
    }

    /** Without the zeros at the end, so that 0 is []. */
    static String row(int... c) {
        int length = c.length;
        while (length > 0 && c[length - 1] == 0) {
            length--;
        }
        return Arrays.toString(Arrays.copyOf(c, length));
    }

    static int[] poly(int... c) {
        return c;
    }

    static int[] product(int[]... polys) {
        int[] whole = {1};
        for (int[] poly : polys) {
            int[] next = new int[whole.length + poly.length - 1];
            for (int i = 0; i < whole.length; i++) {
                for (int j = 0; j < poly.length; j++) {
                    next[i + j] += whole[i] * poly[j];
                }
            }
            whole = next;
        }
        return whole;
    }

    /** A call that throws, and changes neither a register nor what is told. */
    static void refusal(String what, IntegerSplitter x, String due, Call call) {
        String before = all(x);
        answer(what, due, call);
        answer(what + ": all that can be seen after it", before, () -> all(x));
    }

    /** Runs the test of one sentence of the document by itself, and names the sentence if it doesn't hold. */
    static void sentence(String words, Runnable test) {
        int rightBefore = right;
        int wrongBefore = wrong;
        try {
            test.run();
        } catch (RuntimeException e) {
            wrong++;
            System.out.println("a call that should answer threw " + e.getClass().getSimpleName());
        }
        if (wrong == wrongBefore && right == rightBefore) {
            wrong++;
            System.out.println("nothing was looked at");
        }
        if (wrong > wrongBefore) {
            System.out.println("DOES NOT HOLD: " + words);
        }
    }

    static void end() {
        System.out.println(right + " answers as due, " + wrong + " not");
        if (wrong != 0 || right == 0) {
            System.exit(1);
        }
    }
}
