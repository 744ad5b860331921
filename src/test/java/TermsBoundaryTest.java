/** The boundary cases of the document's Terms, and its number of calls, a test for each sentence. */
public final class TermsBoundaryTest {
    private static final int[][] SOME = {
        {1}, {-1}, {6}, {-99999}, {0, 1}, {-1, 1}, {4, -6}, {0, 0, 0, 0, 0, 0, 0, -1}, Boundary.AT_LIMITS};

    public static void main(String[] args) {
        Expect.sentence("An object is used for at most 512 calls after it has been made",
            TermsBoundaryTest::lastCall);
        Expect.sentence("its DEGREE is the greatest k for which c(k) is not 0", TermsBoundaryTest::degrees);
        Expect.sentence("The polynomial 0 has none that isn't 0; its degree is -1.", TermsBoundaryTest::zero);
        Expect.sentence("(So 0 divides only 0", TermsBoundaryTest::zeroDivides);
        Expect.sentence("and every polynomial divides 0.)", TermsBoundaryTest::allDivideZero);
        Expect.sentence("the greatest whole number that divides all its coefficients, 0 for the polynomial 0",
            TermsBoundaryTest::contents);
        Expect.sentence("SIMPLE if its content is 1 and it is no product of two polynomials of positive degree",
            TermsBoundaryTest::simple);
        Expect.sentence("simple polynomials with positive leading coefficients, no two the same, each with a "
            + "MULTIPLICITY from 1 on", TermsBoundaryTest::multiplicities);
        Expect.sentence("(.. a polynomial of degree 0 has none.)", TermsBoundaryTest::numbersHaveNoFactors);
        Expect.sentence("the lesser degree first", TermsBoundaryTest::orderByDegree);
        Expect.sentence("of those with the same degree the one first whose coefficient is less at the highest "
            + "place at which they differ", TermsBoundaryTest::orderByCoefficient);
        Expect.sentence("THE GREATEST COMMON DIVISOR of two polynomials is 0 if both are 0",
            TermsBoundaryTest::commonOfZeros);
        Expect.sentence("among the polynomials that divide both and have the greatest degree that such ones have, "
            + "the one with the greatest leading coefficient", TermsBoundaryTest::greatestCommon);
        Expect.sentence("so one has coefficients 0 .. p - 1, and it may be 0 or have a lesser degree modulo p",
            TermsBoundaryTest::lesserModulo);
        Expect.sentence("The REGISTERS 0 .. 3 each have a polynomial of at most degree 7 with coefficients "
            + "-99999 .. 99999.", TermsBoundaryTest::fullRegisters);
        Expect.sentence("What would be put into a register beyond these LIMITS makes the call throw "
            + "IllegalStateException.", TermsBoundaryTest::beyondLimits);
        Expect.sentence("A call that throws changes nothing", TermsBoundaryTest::nothingChanges);
        Expect.sentence("what is named first in its comment is tested first", TermsBoundaryTest::firstNamed);
        Expect.end();
    }

    private static void lastCall() {
        IntegerSplitter x = Expect.loaded(Boundary.SEVEN_FACTORS);
        for (int call = 9; call < 511; call += 2) {
            Expect.answer("factor, call " + call, 7, () -> x.factor(0));
            Expect.answer("prime, call " + (call + 1), false, () -> x.prime(0));
        }
        Expect.answer("take, call 511", true, () -> x.take(3, 6));
        Expect.answer("coefficient, call 512", 3, () -> x.coefficient(3, 0));
    }

    private static void degrees() {
        for (int k = 0; k < 8; k++) {
            int[] alone = new int[8];
            int[] behind = new int[8];
            for (int at = 0; at <= k; at++) {
                alone[at] = at == k ? -1 : 0;
                behind[at] = at == k ? 1 : -99999;
            }
            IntegerSplitter x = Boundary.two(alone, behind);
            Expect.answer("degree of " + Expect.row(alone), k, () -> x.degree(0));
            Expect.answer("degree of " + Expect.row(behind), k, () -> x.degree(1));
        }
    }

    /** Each call that can leave 0 in a register answers -1. */
    private static void zero() {
        leavesZero("put", x -> x.put(0, 0, 0));
        leavesZero("add", x -> x.add(0, 0, 1, false));
        leavesZero("add with minus", x -> x.add(0, 0, 0, true));
        leavesZero("multiply", x -> x.multiply(0, 0, 3));
        leavesZero("derive", x -> x.derive(0, 0));
        leavesZero("shift", x -> x.shift(0, 3, 9));
        leavesZero("divide", x -> x.divide(0, 3, 0));
        leavesZero("common", x -> x.common(0, 3, 3));
    }

    private static void leavesZero(String name, Boundary.Use call) {
        IntegerSplitter x = Boundary.numbers(5, -5, 1, 0);
        Boundary.gives(name, x, -1, 0, Expect.poly(), call);
        Expect.answer(name + ": degree", -1, () -> x.degree(0));
    }

    private static void zeroDivides() {
        for (int[] c : SOME) {
            IntegerSplitter x = Expect.loaded(c);
            Boundary.refuses("divide " + Expect.row(c) + " by 0", x, Expect.ARITHMETIC, y -> y.divide(2, 0, 3));
        }
    }

    private static void allDivideZero() {
        for (int[] c : SOME) {
            String row = Expect.row(c);
            Boundary.gives("divide 0 by " + row, Boundary.two(c, Expect.poly(7)), -1, 1, Expect.poly(),
                x -> x.divide(1, 3, 0));
            int[] common = c.clone();
            for (int k = 0; k < c.length; k++) {
                common[k] = c[c.length - 1] < 0 ? -c[k] : c[k];
            }
            Boundary.gives("common of 0 and " + row, Expect.loaded(c), c.length - 1, 1, common,
                x -> x.common(1, 3, 0));
        }
    }

    private static void contents() {
        hasContent(0);
        hasContent(1, 1);
        hasContent(1, -1);
        hasContent(99999, -99999);
        hasContent(5, 0, 0, 0, 0, 0, 0, 0, -5);
        hasContent(1, 2, 3);
        hasContent(1, 6, 10, 15);
        hasContent(2, -4, 0, 6);
        hasContent(99999, Boundary.AT_LIMITS);
        hasContent(1, 99999, 99998);
        hasContent(33333, 66666, 99999);
    }

    private static void hasContent(int due, int... c) {
        IntegerSplitter x = Expect.loaded(c);
        Expect.answer("content of " + Expect.row(c), due, () -> x.content(0));
    }

    private static void simple() {
        splits("1 1*[0, 1]", 0, 1);
        splits("1 1*[1, 99999]", 1, 99999);
        splits("99999 1*[0, 1]", 0, 99999);
        splits("2 1*[1, 0, 1]", 2, 0, 2);
        splits("1 1*[1, 1, 1, 1, 1, 1, 1]", 1, 1, 1, 1, 1, 1, 1);
        splits("1 1*[-2, 0, 0, 0, 0, 0, 0, 1]", -2, 0, 0, 0, 0, 0, 0, 1);
        splits("2 1*[0, 1] 1*[1, 2]", 0, 2, 4);
        splits("1 1*[1, -2, 2] 1*[1, 2, 2]", 1, 0, 0, 0, 4);
    }

    private static void multiplicities() {
        splits("-1 1*[0, 1]", 0, -1);
        splits("-1 1*[-1, 1]", 1, -1);
        splits("1 2*[0, 1]", 0, 0, 1);
        splits("-1 7*[0, 1]", 0, 0, 0, 0, 0, 0, 0, -1);
        splits("-1 7*[-1, 1]", 1, -7, 21, -35, 35, -21, 7, -1);
        splits("99999 1*[-1, 1] 6*[0, 1]", 0, 0, 0, 0, 0, 0, -99999, 99999);
        splits("1 6*[-1, 1] 1*[0, 1]", 0, 1, -6, 15, -20, 15, -6, 1);
        splits("2 3*[1, 0, 1]", 2, 0, 6, 0, 6, 0, 2);
        splits("1 2*[1, 1, 0, 1]", 1, 2, 1, 2, 2, 0, 1);
    }

    private static void numbersHaveNoFactors() {
        for (int c : new int[] {1, -1, 2, -2, 99999, -99999}) {
            splits(String.valueOf(c), c);
        }
    }

    /** What is due is the unit, then each factor behind its multiplicity. */
    private static void splits(String due, int... c) {
        IntegerSplitter x = Expect.loaded(c);
        Expect.answer("factor of " + Expect.row(c), due.split("\\*").length - 1, () -> x.factor(0));
        Expect.answer("what is told of " + Expect.row(c), due, () -> Expect.told(x));
    }

    private static void splitsProduct(String due, int[]... factors) {
        splits(due, Expect.product(factors));
    }

    private static void orderByDegree() {
        // the greater degree has the lesser coefficients
        splitsProduct("1 1*[9, 5] 1*[-7, -3, 1]", Expect.poly(-7, -3, 1), Expect.poly(9, 5));
        splitsProduct("1 1*[5, 0, 3] 1*[-2, -4, -6, 1]", Expect.poly(-2, -4, -6, 1), Expect.poly(5, 0, 3));
        splitsProduct("1 1*[0, 1] 1*[-2, 0, 0, 0, 0, 0, 1]", Expect.poly(-2, 0, 0, 0, 0, 0, 1), Expect.poly(0, 1));
        splitsProduct("1 1*[7, 3] 1*[1, 0, 1] 1*[-2, 0, 0, 0, 1]",
            Expect.poly(1, 0, 1), Expect.poly(-2, 0, 0, 0, 1), Expect.poly(7, 3));
    }

    private static void orderByCoefficient() {
        splitsProduct("1 1*[-1, 1] 1*[0, 1]", Expect.poly(0, 1), Expect.poly(-1, 1));
        splitsProduct("1 1*[9, 1] 1*[-9, 2]", Expect.poly(-9, 2), Expect.poly(9, 1));
        splitsProduct("1 1*[-45, 1] 1*[-44, 1] 1*[44, 1]", Expect.poly(44, 1), Expect.poly(-44, 1),
            Expect.poly(-45, 1));
        splitsProduct("1 1*[5, -1, 1] 1*[-5, 0, 1] 1*[-5, 1, 1]", Expect.poly(-5, 1, 1), Expect.poly(5, -1, 1),
            Expect.poly(-5, 0, 1));
        splitsProduct("1 1*[3, 9, 0, 1] 1*[-3, -9, 3, 1]", Expect.poly(-3, -9, 3, 1), Expect.poly(3, 9, 0, 1));
        splitsProduct("1 1*[3, 0, 0, 1] 1*[5, 0, 0, 1]", Expect.poly(5, 0, 0, 1), Expect.poly(3, 0, 0, 1));
        // the multiplicity counts for nothing
        splitsProduct("1 3*[-1, 1] 1*[1, 1]", Expect.poly(1, 1), Expect.poly(-1, 3, -3, 1));
        splitsProduct("1 1*[-1, 1] 3*[1, 1]", Expect.poly(-1, 1), Expect.poly(1, 3, 3, 1));
    }

    private static void commonOfZeros() {
        IntegerSplitter x = Boundary.busy();
        Boundary.gives("common of 0 and 0", x, -1, 0, Expect.poly(), y -> y.common(0, 3, 3));
        Boundary.gives("common of 0 and 0 in two registers", x, -1, 1, Expect.poly(), y -> y.common(1, 0, 3));
    }

    private static void greatestCommon() {
        hasCommon(Expect.poly(6), Expect.poly(-12), Expect.poly(18));
        hasCommon(Expect.poly(1), Expect.poly(-1), Expect.poly(99999));
        hasCommon(Expect.poly(99999), Expect.poly(-99999), Boundary.AT_LIMITS);
        hasCommon(Expect.poly(2), Expect.poly(0, 2), Expect.poly(4));
        hasCommon(Expect.poly(1), Expect.poly(0, 1), Expect.poly(1, 1));
        hasCommon(Expect.poly(-2, 2), Expect.poly(4, -4), Expect.poly(6, 0, -6));
        hasCommon(Expect.poly(1, 2), Expect.poly(1, 2), Expect.poly(-3, -6));
        hasCommon(Expect.poly(99999, -99999, 99999, -99999, -99999, 99999, -99999, 99999), Boundary.AT_LIMITS,
            Boundary.AT_LIMITS);
        hasCommon(Expect.poly(0, 0, 0, 0, 0, 0, 0, 1), Expect.poly(0, 0, 0, 0, 0, 0, 0, -99999),
            Expect.poly(0, 0, 0, 0, 0, 0, 0, 99998));
    }

    private static void hasCommon(int[] due, int[] a, int[] b) {
        String what = "common of " + Expect.row(a) + " and " + Expect.row(b);
        Boundary.gives(what, Boundary.two(a, b), due.length - 1, 2, due, x -> x.common(2, 0, 1));
        Boundary.gives(what + ", turned", Boundary.two(a, b), due.length - 1, 0, due, x -> x.common(0, 1, 0));
    }

    /** Of degree 7, but 0, a number, or of degree 1 modulo p; all coefficients are negative or beyond p - 1. */
    private static void lesserModulo() {
        for (int p : Boundary.MODULI) {
            IntegerSplitter x = Expect.loaded(p, -p, 0, 0, 0, 0, 0, -p);
            Expect.answer("modular of 0 modulo " + p, -1, () -> x.modular(0, p));
            Expect.answer("roots of 0 modulo " + p, p, () -> x.roots(0, p));
            x.put(0, 0, -1);
            Expect.answer("modular of a number modulo " + p, 0, () -> x.modular(0, p));
            Expect.answer("roots of a number modulo " + p, 0, () -> x.roots(0, p));
            x.put(0, 1, -1 - p);
            Expect.answer("modular of degree 1 modulo " + p, 1, () -> x.modular(0, p));
            Expect.answer("roots of degree 1 modulo " + p, 1, () -> x.roots(0, p));
            areAlike(p);
        }
    }

    /** x^7 - x, and others with the same remainders at each place, up to the limits. */
    private static void areAlike(int p) {
        int most = 99999 / p * p - p;
        IntegerSplitter x = Boundary.two(Expect.poly(0, p - 1, 0, 0, 0, 0, 0, 1),
            Expect.poly(-most, most - 1, p, -p, most, -most, 0, 1 - most));
        Expect.answer("modular of x^7 - x modulo " + p, x.modular(0, p), () -> x.modular(1, p));
        Expect.answer("roots of x^7 - x modulo " + p, x.roots(0, p), () -> x.roots(1, p));
    }

    private static void fullRegisters() {
        IntegerSplitter x = new IntegerSplitter();
        for (int r = 0; r < 4; r++) {
            for (int k = 0; k < 8; k++) {
                x.put(r, k, (r + k) % 2 == 0 ? 99999 : -99999);
            }
        }
        for (int r = 0; r < 4; r++) {
            int at = r;
            int c = r % 2 == 0 ? 99999 : -99999;
            Expect.answer("register " + r, Expect.row(c, -c, c, -c, c, -c, c, -c), () -> Expect.register(x, at));
        }
        Boundary.gives("add at the limits", x, -1, 2, Expect.poly(), y -> y.add(2, 0, 1, false));
    }

    /** One beyond at either end and at the first and the last place, and a degree of 8, by each call that can. */
    private static void beyondLimits() {
        for (int k : new int[] {0, 7}) {
            int[] greatest = new int[8];
            int[] one = new int[8];
            greatest[k] = 99999;
            one[k] = 1;
            IntegerSplitter x = Boundary.two(greatest, one);
            Boundary.refuses("add, place " + k, x, Expect.STATE, y -> y.add(2, 0, 1, false));
            greatest[k] = -99999;
            IntegerSplitter less = Boundary.two(greatest, one);
            Boundary.refuses("add with minus, place " + k, less, Expect.STATE, y -> y.add(2, 0, 1, true));
        }
        IntegerSplitter squares = Boundary.numbers(-50000, 2, 0, 0);
        Boundary.refuses("multiply to -100000", squares, Expect.STATE, x -> x.multiply(2, 0, 1));
        IntegerSplitter powers = Boundary.two(Expect.poly(0, 0, 0, 0, 0, 0, 0, 1), Expect.poly(0, 1));
        Boundary.refuses("multiply to degree 8", powers, Expect.STATE, x -> x.multiply(2, 0, 1));
        Boundary.refuses("derive", Expect.loaded(0, 0, 50000), Expect.STATE, x -> x.derive(2, 0));
        Boundary.refuses("shift", Expect.loaded(99999, 1), Expect.STATE, x -> x.shift(2, 0, 1));
        Boundary.refuses("divide", Boundary.wide(), Expect.STATE, x -> x.divide(3, 0, 2));
        Boundary.refuses("common", Boundary.wide(), Expect.STATE, x -> x.common(3, 0, 1));
    }

    /** Every call with every exception that it has; where it can, it would write over what it reads. */
    private static void nothingChanges() {
        Boundary.refuses("put", Expect.INDEX, x -> x.put(0, 8, 1));
        Boundary.refuses("put", Expect.ARGUMENT, x -> x.put(0, 0, 100000));
        Boundary.refuses("coefficient", Expect.INDEX, x -> x.coefficient(4, 0));
        Boundary.refuses("degree", Expect.INDEX, x -> x.degree(4));
        Boundary.refuses("add", Expect.INDEX, x -> x.add(0, 0, 4, true));
        Boundary.refuses("add", Expect.STATE, x -> x.add(0, 0, 0, false));
        Boundary.refuses("multiply", Expect.INDEX, x -> x.multiply(0, 0, 4));
        Boundary.refuses("multiply", Expect.STATE, x -> x.multiply(0, 0, 0));
        Boundary.refuses("derive", Expect.INDEX, x -> x.derive(0, 4));
        Boundary.refuses("derive", Expect.STATE, x -> x.derive(0, 0));
        Boundary.refuses("shift", Expect.INDEX, x -> x.shift(0, 4, 1));
        Boundary.refuses("shift", Expect.ARGUMENT, x -> x.shift(1, 1, 10));
        Boundary.refuses("shift", Expect.STATE, x -> x.shift(0, 0, 9));
        Boundary.refuses("divide", Expect.INDEX, x -> x.divide(0, 0, 4));
        Boundary.refuses("divide", Expect.ARITHMETIC, x -> x.divide(0, 0, 2));
        Boundary.refuses("divide", Boundary.wide(), Expect.STATE, x -> x.divide(0, 0, 2));
        Boundary.refuses("common", Expect.INDEX, x -> x.common(0, 0, 4));
        Boundary.refuses("common", Boundary.wide(), Expect.STATE, x -> x.common(0, 0, 1));
        Boundary.refuses("value", Expect.INDEX, x -> x.value(4, 1));
        Boundary.refuses("value", Expect.ARGUMENT, x -> x.value(0, 10));
        Boundary.refuses("content", Expect.INDEX, x -> x.content(4));
        Boundary.refuses("factor", Expect.INDEX, x -> x.factor(4));
        Boundary.refuses("factor", Expect.ARITHMETIC, x -> x.factor(3));
        Boundary.refuses("multiplicity", Expect.ELEMENT, x -> x.multiplicity(7));
        Boundary.refuses("factorAt", Expect.ELEMENT, x -> x.factorAt(7, 0));
        Boundary.refuses("take", Expect.INDEX, x -> x.take(4, 0));
        Boundary.refuses("take", Expect.ELEMENT, x -> x.take(0, 7));
        Boundary.refuses("prime", Expect.INDEX, x -> x.prime(4));
        Boundary.refuses("modular", Expect.INDEX, x -> x.modular(4, 2));
        Boundary.refuses("modular", Expect.ARGUMENT, x -> x.modular(0, 4));
        Boundary.refuses("roots", Expect.INDEX, x -> x.roots(4, 2));
        Boundary.refuses("roots", Expect.ARGUMENT, x -> x.roots(0, 4));
    }

    /** Two faults at once, wherever two can stand in one call. */
    private static void firstNamed() {
        Boundary.refuses("put(4, 0, 100000)", Expect.INDEX, x -> x.put(4, 0, 100000));
        Boundary.refuses("put(0, 8, 100000)", Expect.INDEX, x -> x.put(0, 8, 100000));
        Boundary.refuses("add(4, ..), beyond the limits", Expect.INDEX, x -> x.add(4, 0, 0, false));
        Boundary.refuses("multiply(4, ..), beyond the limits", Expect.INDEX, x -> x.multiply(4, 0, 0));
        Boundary.refuses("derive(4, ..), beyond the limits", Expect.INDEX, x -> x.derive(4, 0));
        Boundary.refuses("shift(4, ..), beyond the limits", Expect.INDEX, x -> x.shift(4, 0, 9));
        Boundary.refuses("shift(4, 0, 10)", Expect.INDEX, x -> x.shift(4, 0, 10));
        Boundary.refuses("shift(0, 4, 10)", Expect.INDEX, x -> x.shift(0, 4, 10));
        Boundary.refuses("shift by 10, beyond the limits", Expect.ARGUMENT, x -> x.shift(0, 0, 10));
        Boundary.refuses("divide(4, ..) by 0", Expect.INDEX, x -> x.divide(4, 0, 3));
        Boundary.refuses("divide of 4 by 0", Expect.INDEX, x -> x.divide(0, 4, 3));
        Boundary.refuses("divide(4, ..) by what does not divide", Expect.INDEX, x -> x.divide(4, 0, 2));
        Boundary.refuses("divide(4, ..), beyond the limits", Boundary.wide(), Expect.INDEX, x -> x.divide(4, 0, 2));
        Boundary.refuses("common(4, ..), beyond the limits", Boundary.wide(), Expect.INDEX, x -> x.common(4, 0, 1));
        Boundary.refuses("value(4, 10)", Expect.INDEX, x -> x.value(4, 10));
        Boundary.refuses("take(4, 7)", Expect.INDEX, x -> x.take(4, 7));
        Boundary.refuses("take(4, ..), beyond the limits", Boundary.wide(), Expect.INDEX, x -> x.take(4, 1));
        Boundary.refuses("modular(4, 4)", Expect.INDEX, x -> x.modular(4, 4));
        Boundary.refuses("modular of 0 with 4", Expect.ARGUMENT, x -> x.modular(3, 4));
        Boundary.refuses("roots(4, 4)", Expect.INDEX, x -> x.roots(4, 4));
    }
}
