/**
 * The boundary cases of promises 13 to 18, a test for each sentence: factor, unit, multiplicity, factorAt, take,
 * prime.
 */
public final class FactorBoundaryTest {
    private static final int[] NO_FACTORS_OF_SEVEN = {-1, 7, 8, Integer.MIN_VALUE, Integer.MAX_VALUE};

    public static void main(String[] args) {
        Expect.sentence("13: Takes register r apart, which stays as it is", FactorBoundaryTest::registerStays);
        Expect.sentence("13: how many factors it has (multiplicities not counted)", FactorBoundaryTest::counts);
        Expect.sentence("13: What is told of factors is of the latest polynomial that was taken apart so.",
            FactorBoundaryTest::latest);
        Expect.sentence("13: (One that throws leaves it.)", FactorBoundaryTest::refusedFactor);
        Expect.sentence("13: IndexOutOfBoundsException when r is not 0 .. 3", FactorBoundaryTest::factorNoRegister);
        Expect.sentence("13: ArithmeticException when it is 0", FactorBoundaryTest::factorOfZero);
        Expect.sentence("14: The unit", FactorBoundaryTest::units);
        Expect.sentence("14: 0 when nothing was taken apart", FactorBoundaryTest::noUnit);
        Expect.sentence("15: The multiplicity of factor i.", FactorBoundaryTest::multiplicities);
        Expect.sentence("15: NoSuchElementException when there is no factor i", FactorBoundaryTest::noMultiplicity);
        Expect.sentence("16: Coefficient c(k) of factor i", FactorBoundaryTest::factorPlaces);
        Expect.sentence("16: its degree when k is -1", FactorBoundaryTest::factorDegrees);
        Expect.sentence("16: 0 for any other k that is not 0 .. 7", FactorBoundaryTest::factorBeyondPlaces);
        Expect.sentence("16: (Also for k below -1.)", FactorBoundaryTest::factorBelowPlaces);
        Expect.sentence("16: NoSuchElementException when there is no factor i", FactorBoundaryTest::noFactorAt);
        Expect.sentence("17: Register to becomes factor i: true", FactorBoundaryTest::taken);
        Expect.sentence("17: false, changing nothing, when that is beyond the limits", FactorBoundaryTest::notTaken);
        Expect.sentence("17: IndexOutOfBoundsException when to is not 0 .. 3", FactorBoundaryTest::takeNoRegister);
        Expect.sentence("17: NoSuchElementException when there is no factor i", FactorBoundaryTest::takeNoFactor);
        Expect.sentence("18: neither 0, 1 nor -1", FactorBoundaryTest::neverPrime);
        Expect.sentence("18: no product of two polynomials of which neither is 1 or -1",
            FactorBoundaryTest::primePolynomials);
        Expect.sentence("18: (So a polynomial of degree 0 is when its amount is a prime number.)",
            FactorBoundaryTest::primeNumbers);
        Expect.sentence("18: IndexOutOfBoundsException when r is not 0 .. 3", FactorBoundaryTest::primeNoRegister);
        Expect.end();
    }

    private static IntegerSplitter takenApart(int... c) {
        IntegerSplitter x = Expect.loaded(c);
        x.factor(0);
        return x;
    }

    /** All that can be seen of the registers, before and after each of them is taken apart. */
    private static void registerStays() {
        for (int r = 0; r < 4; r++) {
            int at = r;
            IntegerSplitter x = new IntegerSplitter();
            Expect.load(x, r, Boundary.AT_LIMITS);
            Expect.load(x, (r + 1) % 4, 5);
            Expect.answer("factor(" + r + ")", 3, () -> x.factor(at));
            for (int other = 0; other < 4; other++) {
                int register = other;
                int[] due = other == r ? Boundary.AT_LIMITS : Expect.poly(other == (r + 1) % 4 ? 5 : 0);
                Expect.answer("register " + other + " after factor(" + r + ")", Expect.row(due),
                    () -> Expect.register(x, register));
            }
        }
    }

    private static void counts() {
        hasFactors(0, 1);
        hasFactors(0, -99999);
        hasFactors(1, 0, 1);
        hasFactors(1, 5, -99999);
        hasFactors(1, 0, 0, 0, 0, 0, 0, 0, -99999);
        hasFactors(1, 1, 7, 21, 35, 35, 21, 7, 1);
        hasFactors(1, 2, 0, 0, 0, 0, 0, 0, 99999);
        hasFactors(2, 0, 1, 1);
        hasFactors(7, Boundary.SEVEN_FACTORS);
    }

    private static void hasFactors(int due, int... c) {
        IntegerSplitter x = Expect.loaded(c);
        Expect.answer("factor of " + Expect.row(c), due, () -> x.factor(0));
    }

    /** From many factors to none and back; neither other calls nor a change of the register tell of another one. */
    private static void latest() {
        IntegerSplitter x = takenApart(Boundary.SEVEN_FACTORS);
        Expect.load(x, 1, -3);
        x.factor(1);
        Expect.answer("told of a number after one with seven factors", "-3", () -> Expect.told(x));
        Expect.load(x, 0, 0, 0, 2);
        x.factor(0);
        Expect.answer("told of 2 x x after a number", "2 2*[0, 1]", () -> Expect.told(x));
        Expect.load(x, 0, -1, 0, 1);
        x.prime(0);
        x.modular(0, 2);
        x.common(2, 0, 1);
        x.divide(2, 0, 2);
        x.take(0, 0);
        Expect.answer("told of 2 x x after other calls", "2 2*[0, 1]", () -> Expect.told(x));
    }

    private static void refusedFactor() {
        String due = "-6 1*[-1, 1] 2*[1, 2]";
        int[] c = Expect.product(Expect.poly(-6), Expect.poly(-1, 1), Expect.poly(1, 4, 4));
        IntegerSplitter x = takenApart(c);
        Expect.answer("told", due, () -> Expect.told(x));
        Expect.answer("factor of 0", Expect.ARITHMETIC, () -> x.factor(3));
        Expect.answer("told after factor of 0", due, () -> Expect.told(x));
        Expect.answer("factor of no register", Expect.INDEX, () -> x.factor(4));
        Expect.answer("told after factor of no register", due, () -> Expect.told(x));
        x.add(0, 0, 0, true);
        Expect.answer("factor of what has become 0", Expect.ARITHMETIC, () -> x.factor(0));
        Expect.answer("told after factor of what has become 0", due, () -> Expect.told(x));
    }

    private static void factorNoRegister() {
        Boundary.refusesEach("factor of register", Boundary.NO_REGISTERS, Expect.INDEX, (x, r) -> x.factor(r));
    }

    private static void factorOfZero() {
        for (int r = 0; r < 4; r++) {
            int at = r;
            Boundary.refuses("factor(" + r + ") of a new object", new IntegerSplitter(), Expect.ARITHMETIC,
                x -> x.factor(at));
        }
        Boundary.refuses("factor of 0 after another one", Expect.ARITHMETIC, x -> x.factor(3));
    }

    private static void units() {
        hasUnit(1, 1);
        hasUnit(-1, -1);
        hasUnit(99999, 99999);
        hasUnit(-99999, -99999);
        hasUnit(1, 0, 1);
        hasUnit(-1, 0, -1);
        hasUnit(1, -1, 1);
        hasUnit(-1, -1, -1);
        hasUnit(-99999, Boundary.AT_LIMITS);
        hasUnit(6, -6, 0, 12);
        hasUnit(-99999, 0, 0, 0, 0, 0, 0, 0, -99999);
    }

    private static void hasUnit(int due, int... c) {
        IntegerSplitter x = takenApart(c);
        Expect.answer("unit of " + Expect.row(c), due, x::unit);
    }

    private static void noUnit() {
        IntegerSplitter x = Expect.loaded(Boundary.SEVEN_FACTORS);
        Expect.answer("unit before factor", 0, x::unit);
        Expect.answer("factor of 0", Expect.ARITHMETIC, () -> x.factor(3));
        Expect.answer("unit after a factor that was refused", 0, x::unit);
        x.prime(0);
        x.modular(0, 2);
        x.common(1, 0, 0);
        Expect.answer("unit after other calls", 0, x::unit);
    }

    private static void multiplicities() {
        IntegerSplitter one = takenApart(0, 0, 0, 0, 0, 0, 0, 99999);
        Expect.answer("multiplicity(0) of 99999 x^7", 7, () -> one.multiplicity(0));
        IntegerSplitter seven = takenApart(Boundary.SEVEN_FACTORS);
        for (int i = 0; i < 7; i++) {
            int at = i;
            Expect.answer("multiplicity(" + i + ") of seven factors", 1, () -> seven.multiplicity(at));
        }
        IntegerSplitter two = takenApart(0, 1, -6, 15, -20, 15, -6, 1);
        Expect.answer("multiplicity(0) of x (x - 1)^6", 6, () -> two.multiplicity(0));
        Expect.answer("multiplicity(1) of x (x - 1)^6", 1, () -> two.multiplicity(1));
        // the number 4 is in the unit, not a factor that stands there twice
        IntegerSplitter four = takenApart(4, 4);
        Expect.answer("multiplicity(0) of 4 x + 4", 1, () -> four.multiplicity(0));
    }

    /** Nothing taken apart, a number, one factor after seven, and seven. */
    private static void noMultiplicity() {
        withoutFactors((x, i) -> x.multiplicity(i), "multiplicity");
    }

    private static void withoutFactors(Boundary.WithOne call, String name) {
        for (int i : new int[] {-1, 0, 1, 7, Integer.MIN_VALUE, Integer.MAX_VALUE}) {
            Boundary.refuses(name + " with " + i + ", nothing taken apart", Expect.loaded(1, 1), Expect.ELEMENT,
                x -> call.run(x, i));
            IntegerSplitter number = Boundary.busy();
            number.add(1, 1, 1, true);
            number.put(1, 0, 7);
            number.factor(1);
            Boundary.refuses(name + " with " + i + " of a number", number, Expect.ELEMENT, x -> call.run(x, i));
        }
        for (int i : new int[] {-1, 1, 2, 6, 7}) {
            IntegerSplitter one = Boundary.busy();
            one.factor(1);
            Boundary.refuses(name + " with " + i + " of one factor", one, Expect.ELEMENT, x -> call.run(x, i));
        }
        Boundary.refusesEach(name + " of seven factors", NO_FACTORS_OF_SEVEN, Expect.ELEMENT, call);
    }

    private static void factorPlaces() {
        int[] c = {99999, 99998, 99997, 99996, 99995, 99994, 99993, 99992};
        IntegerSplitter x = takenApart(c);
        for (int k = 0; k < 8; k++) {
            int place = k;
            Expect.answer("factorAt(0, " + k + ") of what is simple itself", c[k], () -> x.factorAt(0, place));
        }
        IntegerSplitter power = takenApart(0, 0, 0, 0, 0, 0, 0, -5);
        for (int k = 0; k < 8; k++) {
            int place = k;
            Expect.answer("factorAt(0, " + k + ") of -5 x^7", k == 1 ? 1 : 0, () -> power.factorAt(0, place));
        }
        IntegerSplitter seven = takenApart(Boundary.SEVEN_FACTORS);
        for (int i = 0; i < 7; i++) {
            int at = i;
            Expect.answer("factorAt(" + i + ", 0) of seven factors", i - 3, () -> seven.factorAt(at, 0));
        }
        IntegerSplitter wide = takenApart(Boundary.WIDE);
        Expect.answer("factorAt(1, 1) beyond the limits of a register", 100003, () -> wide.factorAt(1, 1));
    }

    private static void factorDegrees() {
        for (int k = 1; k < 8; k++) {
            int[] c = new int[8];
            c[0] = -2;
            c[k] = 1;
            IntegerSplitter x = takenApart(c);
            int degree = k;
            Expect.answer("factorAt(0, -1) of x^" + k + " - 2", degree, () -> x.factorAt(0, -1));
        }
        IntegerSplitter x = takenApart(0, 0, 0, 0, 0, 0, 0, 1);
        Expect.answer("factorAt(0, -1) of x^7", 1, () -> x.factorAt(0, -1));
    }

    private static void factorBeyondPlaces() {
        for (int k : new int[] {8, 9, 15, 16, 256, Integer.MAX_VALUE}) {
            IntegerSplitter x = takenApart(Boundary.AT_LIMITS);
            Expect.answer("factorAt(0, " + k + ")", 0, () -> x.factorAt(0, k));
            IntegerSplitter whole = takenApart(-2, 0, 0, 0, 0, 0, 0, 1);
            Expect.answer("factorAt(0, " + k + ") of degree 7", 0, () -> whole.factorAt(0, k));
        }
    }

    private static void factorBelowPlaces() {
        for (int k : new int[] {-2, -3, -8, -256, Integer.MIN_VALUE}) {
            IntegerSplitter x = takenApart(-2, 0, 0, 0, 0, 0, 0, 1);
            Expect.answer("factorAt(0, " + k + ")", 0, () -> x.factorAt(0, k));
        }
    }

    /** Whatever k is: a place, the degree's -1, or none. */
    private static void noFactorAt() {
        for (int k : new int[] {0, -1, 8}) {
            withoutFactors((x, i) -> x.factorAt(i, k), "factorAt place " + k);
        }
    }

    private static void taken() {
        for (int to = 0; to < 4; to++) {
            for (int i = 0; i < 7; i++) {
                int register = to;
                int at = i;
                IntegerSplitter x = Boundary.busy();
                String told = Expect.told(x);
                Expect.answer("take(" + to + ", " + i + ")", true, () -> x.take(register, at));
                Expect.answer("register " + to + " after take(" + to + ", " + i + ")", Expect.row(i - 3, 1),
                    () -> Expect.register(x, register));
                Expect.answer("told after take", told, () -> Expect.told(x));
            }
        }
        int[] c = {99999, 99998, 99997, 99996, 99995, 99994, 99993, 99992};
        takes(0, c, c);
        takes(1, Expect.poly(50001, 99999, 50000), Expect.poly(-50001, -49998, 49999, 50000));
        takes(1, Expect.poly(50001, -99999, 50000), Expect.poly(50001, -49998, -49999, 50000));
    }

    private static void takes(int i, int[] due, int[] c) {
        IntegerSplitter x = takenApart(c);
        Expect.answer("take factor " + i + " of " + Expect.row(c), true, () -> x.take(3, i));
        Expect.answer("register 3 then", Expect.row(due), () -> Expect.register(x, 3));
    }

    /** The factors have 100000 at place 1, or -100000, or 100003. */
    private static void notTaken() {
        doesNotTake(-50001, -49999, 50000, 50000);
        doesNotTake(50001, -49999, -50000, 50000);
        doesNotTake(Boundary.WIDE);
    }

    private static void doesNotTake(int... c) {
        for (int to = 0; to < 4; to++) {
            int register = to;
            IntegerSplitter x = takenApart(c);
            Expect.load(x, 3, Boundary.AT_LIMITS);
            String before = Expect.all(x);
            String what = "take(" + to + ", 1) of " + Expect.row(c);
            Expect.answer(what, false, () -> x.take(register, 1));
            Expect.answer(what + ": all that can be seen after it", before, () -> Expect.all(x));
            Expect.answer("take(" + to + ", 0) then", true, () -> x.take(register, 0));
        }
    }

    private static void takeNoRegister() {
        Boundary.refusesEach("take into register", Boundary.NO_REGISTERS, Expect.INDEX, (x, to) -> x.take(to, 0));
    }

    private static void takeNoFactor() {
        withoutFactors((x, i) -> x.take(0, i), "take");
        withoutFactors((x, i) -> x.take(3, i), "take into 3");
    }

    private static void isPrime(boolean due, int... c) {
        IntegerSplitter x = Expect.loaded(c);
        Expect.answer("prime of " + Expect.row(c), due, () -> x.prime(0));
    }

    private static void neverPrime() {
        for (int r = 0; r < 4; r++) {
            for (int c = -1; c <= 1; c++) {
                int at = r;
                IntegerSplitter x = Boundary.numbers(7, 7, 7, 7);
                x.put(r, 0, c);
                Expect.answer("prime(" + r + ") of " + c, false, () -> x.prime(at));
            }
        }
    }

    private static void primePolynomials() {
        isPrime(true, 0, 1);
        isPrime(true, 0, -1);
        isPrime(false, 0, 2);
        isPrime(false, 0, -99999);
        isPrime(true, 99998, -99999);
        isPrime(false, 0, 0, 1);
        isPrime(false, 2, 0, 2);
        isPrime(true, -1, 0, -1);
        isPrime(false, 1, 2, 1);
        isPrime(false, -1, 0, 1);
        isPrime(false, Boundary.AT_LIMITS);
        isPrime(false, Boundary.SEVEN_FACTORS);
        isPrime(false, Boundary.WIDE);
        isPrime(false, 0, 0, 0, 0, 0, 0, 0, 1);
        isPrime(true, -2, 0, 0, 0, 0, 0, 0, 1);
        isPrime(true, 2, 0, 0, 0, 0, 0, 0, -99999);
        isPrime(true, 99999, 99998, 99997, 99996, 99995, 99994, 99993, 99992);
    }

    private static void primeNumbers() {
        for (int c : new int[] {2, 3, 5, 7, 99971, 99989, 99991}) {
            isPrime(true, c);
            isPrime(true, -c);
        }
        // 97969 is 313 * 313, 96091 is 307 * 313, 99997 is 19 * 19 * 277
        for (int c : new int[] {4, 6, 8, 9, 25, 49, 97969, 96091, 99997, 99998, 99999}) {
            isPrime(false, c);
            isPrime(false, -c);
        }
    }

    private static void primeNoRegister() {
        Boundary.refusesEach("prime of register", Boundary.NO_REGISTERS, Expect.INDEX, (x, r) -> x.prime(r));
    }
}
