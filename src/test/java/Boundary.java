/**
 * What the tests of boundary cases share. Each case gets an object of its own: nothing is promised about one
 * after its 512th call, and what is compared before and after a refused call takes many.
 */
final class Boundary {
    static final int[] NO_REGISTERS = {-1, 4, Integer.MIN_VALUE, Integer.MAX_VALUE};
    static final int[] NO_PLACES = {-1, 8, Integer.MIN_VALUE, Integer.MAX_VALUE};
    static final int[] NO_COEFFICIENTS = {-100000, 100000, Integer.MIN_VALUE, Integer.MAX_VALUE};
    static final int[] TOO_FAR = {-10, 10, Integer.MIN_VALUE, Integer.MAX_VALUE};
    static final int[] MODULI = {2, 3, 5, 7, 11, 13};
    static final int[] NO_MODULI = {
        -13, -2, -1, 0, 1, 4, 6, 8, 9, 10, 12, 14, 15, 17, 169, Integer.MIN_VALUE, Integer.MAX_VALUE};

    static final int[] AT_LIMITS = {-99999, 99999, -99999, 99999, 99999, -99999, 99999, -99999};
    static final int[] SEVEN_FACTORS = {0, -36, 0, 49, 0, -14, 0, 1};
    /** Taken out of WIDE by x - 1, and common to WIDE and WIDE_TOO, is 50001 x x + 100003 x + 50003. */
    static final int[] WIDE = {-50003, -50000, 50002, 50001};
    static final int[] WIDE_TOO = {50003, 50000, 1, 50002, 50001};

    private Boundary() { }

    interface Use {
        Object run(IntegerSplitter x);
    }

    interface WithOne {
        Object run(IntegerSplitter x, int a);
    }

    interface WithThree {
        Object run(IntegerSplitter x, int to, int a, int b);
    }

    /** Register 0 at the limits, 1 with x - 1, 2 with seven factors that are told of, 3 with 0. */
    static IntegerSplitter busy() {
        IntegerSplitter x = Expect.loaded(AT_LIMITS);
        Expect.load(x, 1, -1, 1);
        Expect.load(x, 2, SEVEN_FACTORS);
        x.factor(2);
        return x;
    }

    /** Registers 0 and 1 with WIDE and WIDE_TOO, 2 with x - 1, 3 with 0; the factors of 0 are told of. */
    static IntegerSplitter wide() {
        IntegerSplitter x = Expect.loaded(WIDE);
        Expect.load(x, 1, WIDE_TOO);
        Expect.load(x, 2, -1, 1);
        x.factor(0);
        return x;
    }

    static IntegerSplitter two(int[] first, int[] second) {
        IntegerSplitter x = Expect.loaded(first);
        Expect.load(x, 1, second);
        return x;
    }

    /** All four registers with numbers. */
    static IntegerSplitter numbers(int... c) {
        IntegerSplitter x = new IntegerSplitter();
        for (int r = 0; r < 4; r++) {
            x.put(r, 0, c[r]);
        }
        return x;
    }

    /** A call on a busy object that throws and changes nothing. */
    static void refuses(String what, String due, Use call) {
        refuses(what, busy(), due, call);
    }

    static void refuses(String what, IntegerSplitter x, String due, Use call) {
        Expect.refusal(what, x, due, () -> call.run(x));
    }

    /** What the call answers, and then the register that it writes. */
    static void gives(String what, IntegerSplitter x, int degree, int r, int[] row, Use call) {
        Expect.answer(what, degree, () -> call.run(x));
        Expect.answer(what + ": register " + r, Expect.row(row), () -> Expect.register(x, r));
    }

    static void refusesEach(String name, int[] wrong, String due, WithOne call) {
        for (int a : wrong) {
            refuses(name + " with " + a, due, x -> call.run(x, a));
        }
    }

    /** Each wrong register in each of the three places, the others being right. */
    static void refusesRegisters(String name, WithThree call) {
        for (int r : NO_REGISTERS) {
            refuses(name + "(" + r + ", 1, 1)", Expect.INDEX, x -> call.run(x, r, 1, 1));
            refuses(name + "(3, " + r + ", 1)", Expect.INDEX, x -> call.run(x, 3, r, 1));
            refuses(name + "(3, 1, " + r + ")", Expect.INDEX, x -> call.run(x, 3, 1, r));
        }
    }
}
