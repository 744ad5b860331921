/** The boundary cases of promises 19 and 20, a test for each sentence: modular and roots. */
public final class ModularBoundaryTest {
    public static void main(String[] args) {
        Expect.sentence("19: How many polynomials there are, modulo p, that have positive degree and leading "
            + "coefficient 1, are no products .., and divide register r modulo p", ModularBoundaryTest::counts);
        Expect.sentence("19: -1 when register r is 0 modulo p", ModularBoundaryTest::zeroModulo);
        Expect.sentence("19: IndexOutOfBoundsException when r is not 0 .. 3", ModularBoundaryTest::modularNoRegister);
        Expect.sentence("19: IllegalArgumentException when p is not 2, 3, 5, 7, 11 or 13",
            ModularBoundaryTest::modularNoModulus);
        Expect.sentence("20: For how many x of 0 .. p - 1 the value of register r is divided by p.",
            ModularBoundaryTest::roots);
        Expect.sentence("20: IndexOutOfBoundsException .. as in modular", ModularBoundaryTest::rootsNoRegister);
        Expect.sentence("20: IllegalArgumentException as in modular", ModularBoundaryTest::rootsNoModulus);
        Expect.end();
    }

    private static void hasParts(int due, int p, int... c) {
        IntegerSplitter x = Expect.loaded(c);
        Expect.answer("modular of " + Expect.row(c) + " with " + p, due, () -> x.modular(0, p));
    }

    private static void hasRoots(int due, int p, int... c) {
        IntegerSplitter x = Expect.loaded(c);
        Expect.answer("roots of " + Expect.row(c) + " with " + p, due, () -> x.roots(0, p));
    }

    private static void counts() {
        for (int p : Boundary.MODULI) {
            hasParts(0, p, 1);
            hasParts(0, p, -1);
            hasParts(0, p, p + 1, -p, 0, 0, 0, 0, 0, p);
            hasParts(1, p, 0, 1);
            hasParts(1, p, -1, p - 1);
            hasParts(1, p, 0, 0, 0, 0, 0, 0, 0, -1);
            hasParts(2, p, 0, -1, p + 1);
        }
        // as many as there can be, and all of degree 1 with one of degree 2 modulo 2
        hasParts(7, 7, 0, -1, 0, 0, 0, 0, 0, 1);
        hasParts(7, 13, 0, -1, 0, 0, 0, 0, 0, 1);
        hasParts(3, 2, 0, 1, 0, 0, 1);
        hasParts(3, 2, 0, 1, 0, 0, 0, 0, 0, 1);
        // one that stands there seven times
        hasParts(1, 7, 1, 0, 0, 0, 0, 0, 0, 1);
        hasParts(1, 2, 1, 1, 1, 1, 1, 1, 1, 1);
        hasParts(1, 13, Expect.product(Expect.poly(-1, 3, -3, 1), Expect.poly(1, -4, 6, -4, 1)));
        // one of degree 7 that can't be taken apart
        hasParts(1, 2, 1, 1, 0, 0, 0, 0, 0, 1);
        // -3 .. 3 are seven roots, of which some are alike modulo 2, 3 and 5
        int[] seven = {2, 3, 5, 7, 7, 7};
        for (int i = 0; i < seven.length; i++) {
            hasParts(seven[i], Boundary.MODULI[i], Boundary.SEVEN_FACTORS);
        }
    }

    private static void zeroModulo() {
        for (int p : Boundary.MODULI) {
            int greatest = 99999 / p * p;
            hasParts(-1, p);
            hasParts(-1, p, p);
            hasParts(-1, p, -greatest, greatest, 0, p, -p, greatest, -greatest, greatest);
            hasParts(0, p, -greatest + 1, greatest, 0, p, -p, greatest, -greatest, greatest);
            hasParts(1, p, 0, 0, 0, 0, 0, 0, 0, 1 - greatest);
        }
        for (int r = 0; r < 4; r++) {
            int at = r;
            IntegerSplitter x = Boundary.numbers(1, 1, 1, 1);
            x.put(r, 0, 30030);
            for (int p : Boundary.MODULI) {
                Expect.answer("modular(" + r + ", " + p + ") of 30030", -1, () -> x.modular(at, p));
            }
        }
    }

    private static void modularNoRegister() {
        Boundary.refusesEach("modular of register", Boundary.NO_REGISTERS, Expect.INDEX, (x, r) -> x.modular(r, 2));
    }

    private static void modularNoModulus() {
        Boundary.refusesEach("modular", Boundary.NO_MODULI, Expect.ARGUMENT, (x, p) -> x.modular(2, p));
        Boundary.refusesEach("modular of 0", Boundary.NO_MODULI, Expect.ARGUMENT, (x, p) -> x.modular(3, p));
        for (int p : Boundary.MODULI) {
            hasParts(2, p, 0, 1, 1);
        }
    }

    /** None, one at either end, all of them, and all of them without being 0 modulo p. */
    private static void roots() {
        for (int p : Boundary.MODULI) {
            int greatest = 99999 / p * p;
            hasRoots(p, p);
            hasRoots(p, p, greatest);
            hasRoots(p, p, -greatest, greatest, 0, p, -p, greatest, -greatest, greatest);
            hasRoots(0, p, 1);
            hasRoots(0, p, 1 - greatest);
            hasRoots(1, p, 0, 1);
            hasRoots(1, p, 0, 0, 0, 0, 0, 0, 0, -1);
            hasRoots(1, p, 1, 1);
            hasRoots(2, p, 0, 1, 1);
            hasRoots(1, p, 1 - p, p - 1);
        }
        hasRoots(2, 2, 0, 1, 0, 0, 0, 0, 0, 1);
        hasRoots(5, 5, 0, -1, 0, 0, 0, 1);
        hasRoots(7, 7, 0, -1, 0, 0, 0, 0, 0, 1);
        hasRoots(7, 13, 0, -1, 0, 0, 0, 0, 0, 1);
        // the values go beyond an int
        hasRoots(3, 13, 99999, 99999, 99999, 99999, 99999, 99999, 99999, 99999);
        hasRoots(0, 3, 1, 0, 1);
        hasRoots(0, 2, 1, 1, 0, 0, 0, 0, 0, 1);
        for (int r = 0; r < 4; r++) {
            int at = r;
            IntegerSplitter x = Boundary.numbers(1, 1, 1, 1);
            x.put(r, 0, 30030);
            for (int p : Boundary.MODULI) {
                Expect.answer("roots(" + r + ", " + p + ") of 30030", p, () -> x.roots(at, p));
            }
        }
    }

    private static void rootsNoRegister() {
        Boundary.refusesEach("roots of register", Boundary.NO_REGISTERS, Expect.INDEX, (x, r) -> x.roots(r, 2));
    }

    private static void rootsNoModulus() {
        Boundary.refusesEach("roots", Boundary.NO_MODULI, Expect.ARGUMENT, (x, p) -> x.roots(2, p));
        Boundary.refusesEach("roots of 0", Boundary.NO_MODULI, Expect.ARGUMENT, (x, p) -> x.roots(3, p));
        for (int p : Boundary.MODULI) {
            hasRoots(2, p, 0, 1, 1);
        }
    }
}
