/** The boundary cases of promises 1 to 4, a test for each sentence: a new object, put, coefficient, degree. */
public final class RegisterBoundaryTest {
    public static void main(String[] args) {
        Expect.sentence("1: All registers are 0", RegisterBoundaryTest::newRegisters);
        Expect.sentence("1: nothing was taken apart", RegisterBoundaryTest::newFactors);
        Expect.sentence("2: Coefficient c(k) of register r becomes c", RegisterBoundaryTest::putEverywhere);
        Expect.sentence("2: answers the degree then", RegisterBoundaryTest::putAnswers);
        Expect.sentence("2: IndexOutOfBoundsException when r is not 0 .. 3", RegisterBoundaryTest::putNoRegister);
        Expect.sentence("2: IndexOutOfBoundsException when .. k not 0 .. 7", RegisterBoundaryTest::putNoPlace);
        Expect.sentence("2: IllegalArgumentException when c is not -99999 .. 99999",
            RegisterBoundaryTest::putNoCoefficient);
        Expect.sentence("3: Coefficient c(k) of register r.", RegisterBoundaryTest::coefficientEverywhere);
        Expect.sentence("3: IndexOutOfBoundsException when r is not 0 .. 3",
            RegisterBoundaryTest::coefficientNoRegister);
        Expect.sentence("3: IndexOutOfBoundsException when .. k not 0 .. 7", RegisterBoundaryTest::coefficientNoPlace);
        Expect.sentence("4: The degree of register r.", RegisterBoundaryTest::degreeOfEach);
        Expect.sentence("4: IndexOutOfBoundsException when r is not 0 .. 3", RegisterBoundaryTest::degreeNoRegister);
        Expect.end();
    }

    private static void newRegisters() {
        IntegerSplitter x = new IntegerSplitter();
        for (int r = 0; r < 4; r++) {
            int at = r;
            Expect.answer("degree(" + r + ") of a new object", -1, () -> x.degree(at));
            for (int k = 0; k < 8; k++) {
                int place = k;
                Expect.answer("coefficient(" + r + ", " + k + ") of a new object", 0,
                    () -> x.coefficient(at, place));
            }
        }
    }

    private static void newFactors() {
        IntegerSplitter x = new IntegerSplitter();
        Expect.answer("unit() of a new object", 0, x::unit);
        for (int i : new int[] {-1, 0, 1, 6, 7}) {
            Expect.answer("multiplicity(" + i + ") of a new object", Expect.ELEMENT, () -> x.multiplicity(i));
            Expect.answer("factorAt(" + i + ", 0) of a new object", Expect.ELEMENT, () -> x.factorAt(i, 0));
            Expect.answer("take(0, " + i + ") of a new object", Expect.ELEMENT, () -> x.take(0, i));
        }
    }

    /** Every place of every register, with the numbers at the limits; all other places stay. */
    private static void putEverywhere() {
        for (int r = 0; r < 4; r++) {
            for (int k = 0; k < 8; k++) {
                for (int c : new int[] {-99999, -1, 0, 1, 99999}) {
                    putOne(r, k, c);
                }
            }
        }
    }

    private static void putOne(int r, int k, int c) {
        IntegerSplitter x = new IntegerSplitter();
        int[][] due = new int[4][8];
        for (int at = 0; at < 4; at++) {
            due[at][(k + 1) % 8] = 5 + at;
            due[at][k] = 7;
            Expect.load(x, at, due[at]);
        }
        due[r][k] = c;
        x.put(r, k, c);
        for (int at = 0; at < 4; at++) {
            int register = at;
            Expect.answer("register " + at + " after put(" + r + ", " + k + ", " + c + ")", Expect.row(due[at]),
                () -> Expect.register(x, register));
        }
    }

    /** The degree rises with a greater place, stays with a lesser one, and falls over places that have 0. */
    private static void putAnswers() {
        IntegerSplitter x = new IntegerSplitter();
        Expect.answer("put of 0 into 0", -1, () -> x.put(0, 7, 0));
        for (int k = 0; k < 8; k++) {
            int place = k;
            Expect.answer("put at place " + k + ", the greatest", k, () -> x.put(0, place, -1));
        }
        for (int k = 1; k < 7; k++) {
            int place = k;
            Expect.answer("put of 0 at place " + k + " below 7", 7, () -> x.put(0, place, 0));
        }
        Expect.answer("put of 0 at place 7, only place 0 being left", 0, () -> x.put(0, 7, 0));
        Expect.answer("put of 0 at the last place left", -1, () -> x.put(0, 0, 0));
    }

    private static void putNoRegister() {
        Boundary.refusesEach("put at register", Boundary.NO_REGISTERS, Expect.INDEX, (x, r) -> x.put(r, 0, 1));
    }

    private static void putNoPlace() {
        Boundary.refusesEach("put at place", Boundary.NO_PLACES, Expect.INDEX, (x, k) -> x.put(1, k, 1));
    }

    private static void putNoCoefficient() {
        Boundary.refusesEach("put", Boundary.NO_COEFFICIENTS, Expect.ARGUMENT, (x, c) -> x.put(1, 0, c));
        Boundary.refusesEach("put at place 7", Boundary.NO_COEFFICIENTS, Expect.ARGUMENT, (x, c) -> x.put(3, 7, c));
    }

    private static void coefficientEverywhere() {
        IntegerSplitter x = new IntegerSplitter();
        for (int r = 0; r < 4; r++) {
            for (int k = 0; k < 8; k++) {
                x.put(r, k, r % 2 == 0 ? 99999 - k : k - 99999);
            }
        }
        for (int r = 0; r < 4; r++) {
            for (int k = 0; k < 8; k++) {
                int at = r;
                int place = k;
                Expect.answer("coefficient(" + r + ", " + k + ")", r % 2 == 0 ? 99999 - k : k - 99999,
                    () -> x.coefficient(at, place));
            }
        }
        IntegerSplitter low = Expect.loaded(3);
        Expect.answer("coefficient beyond the degree", 0, () -> low.coefficient(0, 7));
    }

    private static void coefficientNoRegister() {
        Boundary.refusesEach("coefficient of register", Boundary.NO_REGISTERS, Expect.INDEX,
            (x, r) -> x.coefficient(r, 0));
    }

    private static void coefficientNoPlace() {
        Boundary.refusesEach("coefficient at place", Boundary.NO_PLACES, Expect.INDEX,
            (x, k) -> x.coefficient(0, k));
    }

    private static void degreeOfEach() {
        for (int r = 0; r < 4; r++) {
            int at = r;
            for (int k = 0; k < 8; k++) {
                IntegerSplitter x = new IntegerSplitter();
                Expect.answer("degree(" + r + ") of 0", -1, () -> x.degree(at));
                x.put(r, k, -1);
                Expect.answer("degree(" + r + ") with place " + k, k, () -> x.degree(at));
            }
        }
    }

    private static void degreeNoRegister() {
        Boundary.refusesEach("degree of register", Boundary.NO_REGISTERS, Expect.INDEX, (x, r) -> x.degree(r));
    }
}
