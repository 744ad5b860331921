/**
 * The sentences of the document's Terms that name no boundary case, a test for each. Polynomials of at most
 * degree 7 are the same when their values are the same with the 19 numbers that value takes.
 */
public final class TermsTest {
    private static final int FARTHEST = 9;
    private static final int[][][] PAIRS = {
        {{3, -2, 5}, {-1, 4}},
        {{0, 0, 1}, {1, 0, -1, 2}},
        {{-7, 1, 0, 3, -9}, {6, -6, 1, 1}},
        {{300, -20, 1}, {-300, 20, 5}},
        {{12, 18}, {-4, 0, 10, -2}},
        {{1, 2, 3, 4, 5, 6, 7, 8}, {-12}},
        {{9, 0, 0, 0, 0, 0, 0, -5}, {5}}};

    public static void main(String[] args) {
        Expect.sentence("its LEADING coefficient is c(degree)", TermsTest::leading);
        Expect.sentence("With a number x it has the VALUE c(0) + c(1) x + c(2) x x + ..", TermsTest::values);
        Expect.sentence("sums, differences and products of polynomials are those whose values are such with every x",
            TermsTest::sumsAndProducts);
        Expect.sentence("One polynomial DIVIDES another one if the other one is its product with some polynomial, "
            + "the QUOTIENT.", TermsTest::quotients);
        Expect.sentence("the product of all of them, each taken as often as its multiplicity says, and of a number, "
            + "the UNIT, is the polynomial", TermsTest::productOfFactors);
        Expect.sentence("(There is just one such set of factors", TermsTest::oneSet);
        Expect.sentence("MODULO a prime p polynomials are taken alike when their coefficients at each place leave "
            + "the same remainder", TermsTest::alikeModulo);
        Expect.end();
    }

    private static void leading() {
        for (int[][] pair : PAIRS) {
            IntegerSplitter x = Boundary.two(pair[0], pair[1]);
            int due = pair[0][pair[0].length - 1];
            Expect.answer("leading coefficient of " + Expect.row(pair[0]), due, () -> x.coefficient(0, x.degree(0)));
        }
    }

    private static void values() {
        for (int[][] pair : PAIRS) {
            IntegerSplitter x = Boundary.two(pair[0], pair[1]);
            for (int n = -FARTHEST; n <= FARTHEST; n++) {
                int at = n;
                String what = "value with " + n + " of ";
                Expect.answer(what + Expect.row(pair[0]), valueOf(pair[0], n), () -> x.value(0, at));
                Expect.answer(what + Expect.row(pair[1]), valueOf(pair[1], n), () -> x.value(1, at));
            }
        }
    }

    private static long valueOf(int[] c, long n) {
        long sum = 0;
        long power = 1;
        for (int each : c) {
            sum += each * power;
            power *= n;
        }
        return sum;
    }

    private static void sumsAndProducts() {
        for (int[][] pair : PAIRS) {
            IntegerSplitter x = Boundary.two(pair[0], pair[1]);
            String of = " of " + Expect.row(pair[0]) + " and " + Expect.row(pair[1]) + " with ";
            x.add(2, 0, 1, false);
            x.add(3, 0, 1, true);
            x.multiply(0, 0, 1);
            for (int n = -FARTHEST; n <= FARTHEST; n++) {
                int at = n;
                long a = valueOf(pair[0], n);
                long b = valueOf(pair[1], n);
                Expect.answer("sum" + of + n, a + b, () -> x.value(2, at));
                Expect.answer("difference" + of + n, a - b, () -> x.value(3, at));
                Expect.answer("product" + of + n, a * b, () -> x.value(0, at));
            }
        }
    }

    /** Either one of a pair is the quotient of the product and the other. */
    private static void quotients() {
        for (int[][] pair : PAIRS) {
            int[] whole = Expect.product(pair);
            for (int side = 0; side < 2; side++) {
                int[] quotient = pair[1 - side];
                String what = "divide " + Expect.row(whole) + " by " + Expect.row(pair[side]);
                Boundary.gives(what, Boundary.two(whole, pair[side]), quotient.length - 1, 2, quotient,
                    x -> x.divide(2, 0, 1));
            }
        }
    }

    private static void productOfFactors() {
        for (int[][] pair : PAIRS) {
            int[] whole = Expect.product(pair);
            IntegerSplitter x = Expect.loaded(whole);
            int count = x.factor(0);
            for (int n = -FARTHEST; n <= FARTHEST; n++) {
                long product = x.unit();
                for (int i = 0; i < count; i++) {
                    x.take(1, i);
                    for (int times = x.multiplicity(i); times > 0; times--) {
                        product *= x.value(1, n);
                    }
                }
                long got = product;
                Expect.answer("the factors' product with " + n, valueOf(whole, n), () -> got);
            }
        }
    }

    /** The other sign is the unit's alone. */
    private static void oneSet() {
        for (int[][] pair : PAIRS) {
            int[] whole = Expect.product(pair);
            IntegerSplitter x = Boundary.two(whole, Expect.product(whole, Expect.poly(-1)));
            x.factor(0);
            int unit = x.unit();
            String told = Expect.told(x);
            x.factor(1);
            String due = -unit + told.substring(String.valueOf(unit).length());
            Expect.answer("told of -1 times " + Expect.row(whole), due, () -> Expect.told(x));
        }
    }

    private static void alikeModulo() {
        for (int[][] pair : PAIRS) {
            for (int p : Boundary.MODULI) {
                int[] alike = new int[8];
                for (int k = 0; k < 8; k++) {
                    alike[k] = (k < pair[0].length ? pair[0][k] : 0) + p * (k * k - 17 * k + 5);
                }
                IntegerSplitter x = Boundary.two(pair[0], alike);
                String what = " of " + Expect.row(pair[0]) + " and " + Expect.row(alike) + " modulo " + p;
                Expect.answer("modular" + what, x.modular(0, p), () -> x.modular(1, p));
                Expect.answer("roots" + what, x.roots(0, p), () -> x.roots(1, p));
            }
        }
    }
}
