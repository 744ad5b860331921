/** Promises 13 to 18: factor, unit, multiplicity, factorAt, take, prime. */
public final class FactorTest {
    public static void main(String[] args) {
        factors();
        order();
        factorsThatHide();
        toldStays();
        wrongInputs();
        factorAt();
        take();
        primes();
        Expect.end();
    }

    /** What is due is written as Expect.told does: the unit, then each factor behind its multiplicity. */
    private static void splits(String due, int... c) {
        IntegerSplitter x = Expect.loaded(c);
        String row = Expect.row(c);
        int count = due.split("\\*").length - 1;
        Expect.answer("factor of " + row, count, () -> x.factor(0));
        Expect.answer("what is told of " + row, due, () -> Expect.told(x));
        Expect.answer("the register stays " + row, row, () -> Expect.register(x, 0));
    }

    private static void factors() {
        splits("1", 1);
        splits("-1", -1);
        splits("-12", -12);
        splits("1 1*[0, 1]", 0, 1);
        splits("-99999 1*[0, 1]", 0, -99999);
        splits("3 7*[0, 1]", 0, 0, 0, 0, 0, 0, 0, 3);
        splits("-2 1*[3, 2]", -6, -4);
        splits("1 1*[-1, 1] 1*[1, 1]", -1, 0, 1);
        splits("-1 1*[-1, 1] 1*[1, 1]", 1, 0, -1);
        splits("1 1*[1, 0, 1]", 1, 0, 1);
        splits("1 2*[1, 1]", 1, 2, 1);
        splits("1 7*[1, 1]", 1, 7, 21, 35, 35, 21, 7, 1);
        splits("1 1*[-1, 1] 1*[1, 1, 1, 1, 1, 1, 1]", -1, 0, 0, 0, 0, 0, 0, 1);
        splits("1 1*[-1, 1] 1*[1, 1] 1*[1, -1, 1] 1*[1, 1, 1]", -1, 0, 0, 0, 0, 0, 1);
        splits("6 1*[1, 2] 1*[1, 3]", 6, 30, 36);
        splits("1 3*[-1, 1] 2*[0, 1] 1*[1, 0, 1]",
            Expect.product(Expect.poly(0, 0, 1), Expect.poly(-1, 3, -3, 1), Expect.poly(1, 0, 1)));
        splits("1 1*[-3, 1] 1*[-2, 1] 1*[-1, 1] 1*[0, 1] 1*[1, 1] 1*[2, 1] 1*[3, 1]",
            0, -36, 0, 49, 0, -14, 0, 1);
        // a factor beyond the limits of the registers
        splits("1 1*[-1, 1] 1*[50003, 100003, 50001]", -50003, -50000, 50002, 50001);
        splits("-3 3*[1, 1] 2*[-2, 0, 1]",
            Expect.product(Expect.poly(-3), Expect.poly(4, 0, -4, 0, 1), Expect.poly(1, 3, 3, 1)));
    }

    /** The lesser degree comes first, then the lesser coefficient from the leading one downwards. */
    private static void order() {
        splits("1 1*[5, 1] 1*[-1, 2] 1*[1, 2] 1*[-7, 3]", Expect.product(
            Expect.poly(-7, 3), Expect.poly(1, 2), Expect.poly(5, 1), Expect.poly(-1, 2)));
        splits("1 1*[9, -1, 1] 1*[-3, 0, 1] 1*[2, 0, 1]", Expect.product(
            Expect.poly(2, 0, 1), Expect.poly(-3, 0, 1), Expect.poly(9, -1, 1)));
        splits("1 1*[1, 9] 1*[-7, 0, 1] 1*[1, -8, 2]", Expect.product(
            Expect.poly(1, -8, 2), Expect.poly(-7, 0, 1), Expect.poly(1, 9)));
        splits("1 1*[2, -1, 0, 1] 1*[-5, 0, 0, 1]", Expect.product(
            Expect.poly(-5, 0, 0, 1), Expect.poly(2, -1, 0, 1)));
        splits("1 2*[-5, 1] 1*[-4, 1] 3*[4, 1]", Expect.product(Expect.poly(64, 48, 12, 1), Expect.poly(-4, 1),
            Expect.poly(25, -10, 1)));
    }

    /** Polynomials that fall apart modulo every prime, and those to which small primes tell nothing. */
    private static void factorsThatHide() {
        splits("1 1*[1, 0, 0, 0, 1]", 1, 0, 0, 0, 1);
        splits("1 1*[1, 0, -10, 0, 1]", 1, 0, -10, 0, 1);
        splits("1 1*[1, 0, -1, 0, 1]", 1, 0, -1, 0, 1);
        splits("1 1*[1, -3, 1] 1*[1, 3, 1]", 1, 0, -7, 0, 1);
        splits("4 1*[0, 1] 1*[1, -2, 2] 1*[1, 2, 2]", 0, 4, 0, 0, 0, 16);
        splits("1 1*[-2, 0, 1] 1*[1, 0, -10, 0, 1]",
            Expect.product(Expect.poly(-2, 0, 1), Expect.poly(1, 0, -10, 0, 1)));
        // no prime up to 23 keeps the degree and leaves no square
        splits("1 1*[7429, 0, 0, 0, 0, 0, 0, 30030]", 7429, 0, 0, 0, 0, 0, 0, 30030);
        splits("1 1*[-30030, 1] 1*[0, 1]", 0, -30030, 1);
        splits("1 1*[-316, 1] 1*[316, 1]", -99856, 0, 1);
        // the leading coefficients must be shared out
        splits("1 1*[-7, 143] 1*[11, 210]", -77, -1470 + 1573, 30030);
        splits("1 1*[1, 99999]", 1, 99999);
        splits("1 1*[-1, 316] 1*[1, 316]", -1, 0, 99856);
        splits("1 1*[99999, 99998, 99997, 99996, 99995, 99994, 99993, 99992]",
            99999, 99998, 99997, 99996, 99995, 99994, 99993, 99992);
        splits("99999 1*[1, 1] 1*[1, 0, 1] 1*[1, 0, 0, 0, 1]",
            99999, 99999, 99999, 99999, 99999, 99999, 99999, 99999);
    }

    private static void toldStays() {
        IntegerSplitter x = Expect.loaded(-1, 0, 1);
        x.factor(0);
        String told = Expect.told(x);
        Expect.refusal("factor of 0", x, Expect.ARITHMETIC, () -> x.factor(1));
        Expect.load(x, 0, 1, 2, 1);
        Expect.answer("told after put", told, () -> Expect.told(x));
        x.prime(0);
        x.modular(0, 3);
        x.common(1, 0, 0);
        Expect.answer("told after prime, modular and common", told, () -> Expect.told(x));
        Expect.load(x, 2, 7);
        Expect.answer("factor of a number", 0, () -> x.factor(2));
        Expect.answer("told of a number", "7", () -> Expect.told(x));
        Expect.answer("multiplicity(0) of a number", Expect.ELEMENT, () -> x.multiplicity(0));
    }

    private static void wrongInputs() {
        for (int wrong : new int[] {-1, 4, Integer.MIN_VALUE, Integer.MAX_VALUE}) {
            IntegerSplitter x = Expect.loaded(-1, 0, 1);
            x.factor(0);
            Expect.refusal("factor(" + wrong + ")", x, Expect.INDEX, () -> x.factor(wrong));
            Expect.refusal("prime(" + wrong + ")", x, Expect.INDEX, () -> x.prime(wrong));
            Expect.refusal("take(" + wrong + ", 0)", x, Expect.INDEX, () -> x.take(wrong, 0));
            Expect.refusal("take(" + wrong + ", 9)", x, Expect.INDEX, () -> x.take(wrong, 9));
        }
        for (int wrong : new int[] {-1, 2, 7, Integer.MIN_VALUE, Integer.MAX_VALUE}) {
            IntegerSplitter x = Expect.loaded(-1, 0, 1);
            x.factor(0);
            Expect.refusal("multiplicity(" + wrong + ")", x, Expect.ELEMENT, () -> x.multiplicity(wrong));
            Expect.refusal("factorAt(" + wrong + ", 0)", x, Expect.ELEMENT, () -> x.factorAt(wrong, 0));
            Expect.refusal("factorAt(" + wrong + ", 9)", x, Expect.ELEMENT, () -> x.factorAt(wrong, 9));
            Expect.refusal("take(0, " + wrong + ")", x, Expect.ELEMENT, () -> x.take(0, wrong));
        }
    }

    private static void factorAt() {
        IntegerSplitter x = Expect.loaded(-6, 3, -4, 2);
        Expect.answer("factor", 2, () -> x.factor(0));
        Expect.answer("factorAt(0, -1)", 1, () -> x.factorAt(0, -1));
        Expect.answer("factorAt(0, 0)", -2, () -> x.factorAt(0, 0));
        Expect.answer("factorAt(0, 1)", 1, () -> x.factorAt(0, 1));
        Expect.answer("factorAt(1, -1)", 2, () -> x.factorAt(1, -1));
        Expect.answer("factorAt(1, 0)", 3, () -> x.factorAt(1, 0));
        Expect.answer("factorAt(1, 2)", 2, () -> x.factorAt(1, 2));
        Expect.answer("factorAt(1, 3)", 0, () -> x.factorAt(1, 3));
        for (int k : new int[] {-2, 8, 9, Integer.MIN_VALUE, Integer.MAX_VALUE}) {
            Expect.answer("factorAt(1, " + k + ")", 0, () -> x.factorAt(1, k));
        }
    }

    private static void take() {
        IntegerSplitter x = Expect.loaded(-50003, -50000, 50002, 50001);
        Expect.load(x, 1, 1, 2, 3, 4, 5, 6, 7, 8);
        x.factor(0);
        String told = Expect.told(x);
        Expect.answer("take(1, 1), beyond the limits", false, () -> x.take(1, 1));
        Expect.answer("register 1 stays", "[1, 2, 3, 4, 5, 6, 7, 8]", () -> Expect.register(x, 1));
        Expect.answer("take(1, 0)", true, () -> x.take(1, 0));
        Expect.answer("register 1 is factor 0", "[-1, 1]", () -> Expect.register(x, 1));
        Expect.answer("take(0, 0), from where it came", true, () -> x.take(0, 0));
        Expect.answer("told after take", told, () -> Expect.told(x));
        x.put(1, 0, 5);
        Expect.answer("told after put on what was taken", told, () -> Expect.told(x));
        Expect.refusal("take(4, 1)", x, Expect.INDEX, () -> x.take(4, 1));
        Expect.refusal("take(0, 2)", x, Expect.ELEMENT, () -> x.take(0, 2));
    }

    private static void isPrime(boolean due, int... c) {
        IntegerSplitter x = Expect.loaded(c);
        Expect.answer("prime of " + Expect.row(c), due, () -> x.prime(0));
        Expect.answer("told of after prime", "0", () -> Expect.told(x));
    }

    private static void primes() {
        for (int c : new int[] {2, 3, 5, 97, 99991, -2, -7, -99991}) {
            isPrime(true, c);
        }
        for (int c : new int[] {0, 1, -1, 4, -4, 9, 91, 97969, 99999, -99998}) {
            isPrime(false, c);
        }
        isPrime(true, 0, 1);
        isPrime(true, 0, -1);
        isPrime(true, 5, -3);
        isPrime(false, 0, 2);
        isPrime(false, 6, 4);
        isPrime(true, 1, 0, 1);
        isPrime(true, -1, 0, -1);
        isPrime(false, 2, 0, 2);
        isPrime(false, -1, 0, 1);
        isPrime(false, 1, 2, 1);
        isPrime(false, 0, 0, 1);
        isPrime(true, 1, 0, 0, 0, 1);
        isPrime(false, 4, 0, 0, 0, 1);
        isPrime(true, -1, -1, 0, 0, 0, 0, 0, 1);
        isPrime(true, 2, 0, 0, 0, 0, 0, 0, 99999);
        isPrime(false, 1, 0, 0, 0, 0, 0, 0, 1);
    }
}
