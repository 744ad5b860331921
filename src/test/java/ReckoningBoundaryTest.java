/**
 * The boundary cases of promises 5 to 12, a test for each sentence: add, multiply, derive, shift, divide, common,
 * value, content.
 */
public final class ReckoningBoundaryTest {
    public static void main(String[] args) {
        Expect.sentence("5: Register to becomes the sum of a and b, or with minus a less b; answers its degree.",
            ReckoningBoundaryTest::sums);
        Expect.sentence("5: IndexOutOfBoundsException when to, a or b is not 0 .. 3",
            ReckoningBoundaryTest::addNoRegister);
        Expect.sentence("5: IllegalStateException beyond the limits", ReckoningBoundaryTest::addBeyond);
        Expect.sentence("6: Register to becomes the product of a and b; answers its degree.",
            ReckoningBoundaryTest::products);
        Expect.sentence("6: IndexOutOfBoundsException .. as in add", ReckoningBoundaryTest::multiplyNoRegister);
        Expect.sentence("6: IllegalStateException as in add", ReckoningBoundaryTest::multiplyBeyond);
        Expect.sentence("7: with k c(k) at place k - 1 for k = 1 .. 7; answers its degree",
            ReckoningBoundaryTest::derivatives);
        Expect.sentence("7: IndexOutOfBoundsException when to or a is not 0 .. 3",
            ReckoningBoundaryTest::deriveNoRegister);
        Expect.sentence("7: IllegalStateException beyond the limits", ReckoningBoundaryTest::deriveBeyond);
        Expect.sentence("8: the polynomial whose value with x is that of a with x + h", ReckoningBoundaryTest::shifts);
        Expect.sentence("8: IndexOutOfBoundsException when to or a is not 0 .. 3",
            ReckoningBoundaryTest::shiftNoRegister);
        Expect.sentence("8: IllegalArgumentException when h is not -9 .. 9", ReckoningBoundaryTest::shiftTooFar);
        Expect.sentence("8: IllegalStateException beyond the limits", ReckoningBoundaryTest::shiftBeyond);
        Expect.sentence("9: the quotient of a and b, which b's product with is a", ReckoningBoundaryTest::quotients);
        Expect.sentence("9: (Of 0: 0, -1.)", ReckoningBoundaryTest::quotientOfZero);
        Expect.sentence("9: IndexOutOfBoundsException when to, a or b is not 0 .. 3",
            ReckoningBoundaryTest::divideNoRegister);
        Expect.sentence("9: ArithmeticException when b is 0", ReckoningBoundaryTest::divideByZero);
        Expect.sentence("9: ArithmeticException when b .. does not divide a", ReckoningBoundaryTest::doesNotDivide);
        Expect.sentence("9: IllegalStateException beyond the limits", ReckoningBoundaryTest::divideBeyond);
        Expect.sentence("10: Register to becomes the greatest common divisor of a and b; answers its degree.",
            ReckoningBoundaryTest::commonOnes);
        Expect.sentence("10: IndexOutOfBoundsException when to, a or b is not 0 .. 3",
            ReckoningBoundaryTest::commonNoRegister);
        Expect.sentence("10: IllegalStateException beyond the limits", ReckoningBoundaryTest::commonBeyond);
        Expect.sentence("11: The value of register r with x.", ReckoningBoundaryTest::values);
        Expect.sentence("11: IndexOutOfBoundsException when r is not 0 .. 3", ReckoningBoundaryTest::valueNoRegister);
        Expect.sentence("11: IllegalArgumentException when x is not -9 .. 9", ReckoningBoundaryTest::valueTooFar);
        Expect.sentence("12: The content of register r.", ReckoningBoundaryTest::contents);
        Expect.sentence("12: IndexOutOfBoundsException when r is not 0 .. 3",
            ReckoningBoundaryTest::contentNoRegister);
        Expect.end();
    }

    interface Model {
        Object due(int a, int b);
    }

    /** All registers 0 .. 3 in all three places, also the same one in more than one of them. */
    private static void inAllRegisters(String name, int[] c, Model model, Boundary.WithThree call) {
        for (int code = 0; code < 64; code++) {
            int to = code >> 4;
            int a = code >> 2 & 3;
            int b = code & 3;
            IntegerSplitter x = Boundary.numbers(c);
            String[] due = {"" + c[0], "" + c[1], "" + c[2], "" + c[3]};
            String number = String.valueOf(model.due(c[a], c[b]));
            boolean refused = number.startsWith("throws");
            due[to] = refused ? due[to] : number;
            String what = name + "(" + to + ", " + a + ", " + b + ")";
            Expect.answer(what, refused ? number : number.equals("0") ? "-1" : "0", () -> call.run(x, to, a, b));
            for (int r = 0; r < 4; r++) {
                int at = r;
                Expect.answer(what + ": register " + r, due[r], () -> x.coefficient(at, 0));
            }
        }
    }

    private static void sums() {
        int[] c = {1, -20, 300, 0};
        inAllRegisters("add", c, (a, b) -> a + b, (x, to, a, b) -> x.add(to, a, b, false));
        inAllRegisters("add with minus", c, (a, b) -> a - b, (x, to, a, b) -> x.add(to, a, b, true));
        int[] high = {0, 0, 0, 0, 0, 0, 0, 49999};
        int[] one = {0, 0, 0, 0, 0, 0, 0, 50000};
        Boundary.gives("add up to 99999", Boundary.two(high, one), 7, 2, Expect.poly(0, 0, 0, 0, 0, 0, 0, 99999),
            x -> x.add(2, 0, 1, false));
        Boundary.gives("add with minus down to -99999", Boundary.two(Expect.poly(-49999), Expect.poly(50000)), 0, 2,
            Expect.poly(-99999), x -> x.add(2, 0, 1, true));
        Boundary.gives("add, the degree falling to 0", Boundary.two(Expect.poly(1, 2, 3), Expect.poly(1, -2, -3)),
            0, 2, Expect.poly(2), x -> x.add(2, 0, 1, false));
        Boundary.gives("add 0", Expect.loaded(Boundary.AT_LIMITS), 7, 2, Boundary.AT_LIMITS,
            x -> x.add(2, 0, 3, true));
        Boundary.gives("add with minus itself", Expect.loaded(Boundary.AT_LIMITS), -1, 0, Expect.poly(),
            x -> x.add(0, 0, 0, true));
    }

    private static void addNoRegister() {
        Boundary.refusesRegisters("add", (x, to, a, b) -> x.add(to, a, b, false));
        Boundary.refusesRegisters("add with minus", (x, to, a, b) -> x.add(to, a, b, true));
    }

    /** At each place, one beyond either end. */
    private static void addBeyond() {
        for (int k = 0; k < 8; k++) {
            int[] greatest = new int[8];
            int[] least = new int[8];
            int[] one = new int[8];
            greatest[k] = 99999;
            least[k] = -99999;
            one[k] = 1;
            Boundary.refuses("add to 100000 at place " + k, Boundary.two(greatest, one), Expect.STATE,
                x -> x.add(0, 0, 1, false));
            Boundary.refuses("add to -100000 at place " + k, Boundary.two(least, one), Expect.STATE,
                x -> x.add(1, 0, 1, true));
        }
        Boundary.refuses("add, all places twice", Expect.STATE, x -> x.add(3, 0, 0, false));
    }

    private static void products() {
        inAllRegisters("multiply", new int[] {2, -3, 500, 0}, (a, b) -> Math.abs(a * b) > 99999 ? Expect.STATE : a * b,
            (x, to, a, b) -> x.multiply(to, a, b));
        Boundary.gives("multiply to 99999", Boundary.two(Expect.poly(0, 0, 0, -33333), Expect.poly(0, 0, 0, 0, -3)),
            7, 2, Expect.poly(0, 0, 0, 0, 0, 0, 0, 99999), x -> x.multiply(2, 0, 1));
        Boundary.gives("multiply to -99999", Boundary.two(Expect.poly(-11111), Expect.poly(9)), 0, 2,
            Expect.poly(-99999), x -> x.multiply(2, 0, 1));
        Boundary.gives("multiply by 1", Boundary.two(Boundary.AT_LIMITS, Expect.poly(1)), 7, 2, Boundary.AT_LIMITS,
            x -> x.multiply(2, 0, 1));
        Boundary.gives("multiply by 0", Expect.loaded(Boundary.AT_LIMITS), -1, 0, Expect.poly(),
            x -> x.multiply(0, 0, 3));
        // 2 * 80000 is beyond, but not what is left of it
        Boundary.gives("multiply, what is beyond taken away again",
            Boundary.two(Expect.poly(40000, 80000, 40000), Expect.poly(-2, 2)), 3, 2,
            Expect.poly(-80000, -80000, 80000, 80000), x -> x.multiply(2, 0, 1));
    }

    private static void multiplyNoRegister() {
        Boundary.refusesRegisters("multiply", (x, to, a, b) -> x.multiply(to, a, b));
    }

    private static void multiplyBeyond() {
        productBeyond("to 100000", Expect.poly(-10), Expect.poly(-10000));
        productBeyond("to -100000", Expect.poly(10), Expect.poly(-10000));
        productBeyond("to 2^32", Expect.poly(65536), Expect.poly(65536));
        productBeyond("at place 7", Expect.poly(0, 0, 0, 400), Expect.poly(0, 0, 0, 0, 400));
        productBeyond("by a sum", Expect.poly(250, 200), Expect.poly(200, 250));
        productBeyond("to degree 8", Expect.poly(0, 0, 0, 0, 1), Expect.poly(0, 0, 0, 0, -1));
        productBeyond("to degree 8 from 7", Expect.poly(0, 0, 0, 0, 0, 0, 0, 1), Expect.poly(0, 1));
        productBeyond("to degree 14", Expect.poly(0, 0, 0, 0, 0, 0, 0, 1), Expect.poly(0, 0, 0, 0, 0, 0, 0, 1));
        productBeyond("in all places", Boundary.AT_LIMITS, Boundary.AT_LIMITS);
    }

    private static void productBeyond(String how, int[] a, int[] b) {
        Boundary.refuses("multiply " + how, Boundary.two(a, b), Expect.STATE, x -> x.multiply(0, 0, 1));
    }

    private static void derivatives() {
        for (int k = 0; k < 8; k++) {
            int[] c = new int[8];
            int[] due = new int[8];
            c[k] = k == 0 ? -99999 : -99999 / k;
            due[k == 0 ? 0 : k - 1] = k * c[k];
            Boundary.gives("derive, place " + k, Expect.loaded(c), k - 1, 3, due, x -> x.derive(3, 0));
        }
        Boundary.gives("derive 0", Boundary.busy(), -1, 0, Expect.poly(), x -> x.derive(0, 3));
        Boundary.gives("derive a number", Boundary.numbers(1, 2, 3, 4), -1, 3, Expect.poly(), x -> x.derive(3, 3));
        Boundary.gives("derive into itself", Expect.loaded(8, 7, 6, 5, 4, 3, 2, 1), 6, 0,
            Expect.poly(7, 12, 15, 16, 15, 12, 7), x -> x.derive(0, 0));
    }

    private static void deriveNoRegister() {
        Boundary.refusesEach("derive into", Boundary.NO_REGISTERS, Expect.INDEX, (x, to) -> x.derive(to, 1));
        Boundary.refusesEach("derive of", Boundary.NO_REGISTERS, Expect.INDEX, (x, a) -> x.derive(3, a));
    }

    /** At each place the least amount that goes beyond; place 1 never does. */
    private static void deriveBeyond() {
        for (int k = 2; k < 8; k++) {
            for (int sign = -1; sign <= 1; sign += 2) {
                int[] c = new int[8];
                c[k] = sign * (99999 / k + 1);
                Boundary.refuses("derive, place " + k, Expect.loaded(c), Expect.STATE, x -> x.derive(0, 0));
            }
        }
    }

    private static void shifts() {
        Boundary.gives("shift by 9", Expect.loaded(-9, 1), 1, 1, Expect.poly(0, 1), x -> x.shift(1, 0, 9));
        Boundary.gives("shift by -9", Expect.loaded(0, 0, 0, 0, 0, 1), 5, 1,
            Expect.poly(-59049, 32805, -7290, 810, -45, 1), x -> x.shift(1, 0, -9));
        Boundary.gives("shift by 0", Expect.loaded(Boundary.AT_LIMITS), 7, 0, Boundary.AT_LIMITS,
            x -> x.shift(0, 0, 0));
        Boundary.gives("shift 0", Boundary.busy(), -1, 2, Expect.poly(), x -> x.shift(2, 3, -9));
        Boundary.gives("shift a number", Expect.loaded(-99999), 0, 3, Expect.poly(-99999), x -> x.shift(3, 0, 9));
        Boundary.gives("shift up to 99999", Expect.loaded(99990, 1), 1, 0, Expect.poly(99999, 1),
            x -> x.shift(0, 0, 9));
        Boundary.gives("shift down to -99999", Expect.loaded(-99990, 1), 1, 0, Expect.poly(-99999, 1),
            x -> x.shift(0, 0, -9));
        Boundary.gives("shift of degree 7", Expect.loaded(-128, 448, -672, 560, -280, 84, -14, 1), 7, 0,
            Expect.poly(0, 0, 0, 0, 0, 0, 0, 1), x -> x.shift(0, 0, 2));
        // 44444 (x - 2) (x - 2) + 88888 (x - 2), in which 177776 is taken away again
        Boundary.gives("shift, what is beyond taken away again", Expect.loaded(0, 88888, 44444), 2, 0,
            Expect.poly(0, -88888, 44444), x -> x.shift(0, 0, -2));
    }

    private static void shiftNoRegister() {
        Boundary.refusesEach("shift into", Boundary.NO_REGISTERS, Expect.INDEX, (x, to) -> x.shift(to, 1, 1));
        Boundary.refusesEach("shift of", Boundary.NO_REGISTERS, Expect.INDEX, (x, a) -> x.shift(3, a, 1));
    }

    private static void shiftTooFar() {
        Boundary.refusesEach("shift", Boundary.TOO_FAR, Expect.ARGUMENT, (x, h) -> x.shift(3, 1, h));
        Boundary.refusesEach("shift of 0", Boundary.TOO_FAR, Expect.ARGUMENT, (x, h) -> x.shift(1, 3, h));
    }

    private static void shiftBeyond() {
        shiftBeyond(9, 99991, 1);
        shiftBeyond(-9, -99991, 1);
        shiftBeyond(1, 0, 99999, 1);
        shiftBeyond(-1, 0, 0, 0, 0, 0, 0, 99993, -1);
        shiftBeyond(9, 0, 0, 0, 0, 0, 0, 0, 1);
        shiftBeyond(9, Boundary.AT_LIMITS);
        shiftBeyond(-9, Boundary.AT_LIMITS);
    }

    private static void shiftBeyond(int h, int... c) {
        Boundary.refuses("shift of " + Expect.row(c) + " by " + h, Expect.loaded(c), Expect.STATE,
            x -> x.shift(0, 0, h));
    }

    private static void quotients() {
        inAllRegisters("divide", new int[] {12, -6, 1, 0}, (a, b) -> b == 0 || a % b != 0 ? Expect.ARITHMETIC : a / b,
            (x, to, a, b) -> x.divide(to, a, b));
        hasQuotient(Expect.poly(1), Boundary.AT_LIMITS, Boundary.AT_LIMITS);
        hasQuotient(Boundary.AT_LIMITS, Boundary.AT_LIMITS, Expect.poly(1));
        hasQuotient(Expect.poly(99999, -99999), Expect.poly(-99999, 99999), Expect.poly(-1));
        hasQuotient(Expect.poly(-1), Expect.poly(0, 99999), Expect.poly(0, -99999));
        hasQuotient(Expect.poly(0, 0, 0, 0, 0, 0, 0, 1), Expect.poly(0, 0, 0, 0, 0, 0, 0, -7), Expect.poly(-7));
        hasQuotient(Expect.poly(0, 0, 0, 0, 0, 0, 99999), Expect.poly(0, 0, 0, 0, 0, 0, 0, 99999), Expect.poly(0, 1));
        hasQuotient(Expect.poly(50001, 99999, 50000), Expect.poly(-50001, -49998, 49999, 50000), Expect.poly(-1, 1));
    }

    private static void hasQuotient(int[] due, int[] a, int[] b) {
        Boundary.gives("divide " + Expect.row(a) + " by " + Expect.row(b), Boundary.two(a, b), due.length - 1, 0, due,
            x -> x.divide(0, 0, 1));
    }

    private static void quotientOfZero() {
        Boundary.gives("divide 0 by what is at the limits", Boundary.busy(), -1, 1, Expect.poly(),
            x -> x.divide(1, 3, 0));
        Boundary.gives("divide 0 into the divisor", Boundary.busy(), -1, 1, Expect.poly(), x -> x.divide(1, 3, 1));
        Boundary.gives("divide 0 by 1", Boundary.numbers(1, 5, 0, 0), -1, 1, Expect.poly(), x -> x.divide(1, 3, 0));
    }

    private static void divideNoRegister() {
        Boundary.refusesRegisters("divide", (x, to, a, b) -> x.divide(to, a, b));
    }

    private static void divideByZero() {
        Boundary.refuses("divide by 0", Expect.ARITHMETIC, x -> x.divide(0, 1, 3));
        Boundary.refuses("divide 0 by 0", Expect.ARITHMETIC, x -> x.divide(0, 3, 3));
        Boundary.refuses("divide 0 by 0 in two registers", Boundary.numbers(7, 7, 0, 0), Expect.ARITHMETIC,
            x -> x.divide(0, 2, 3));
        Boundary.refuses("divide by 0 into 0", Expect.ARITHMETIC, x -> x.divide(3, 0, 3));
    }

    private static void doesNotDivide() {
        hasNoQuotient(Expect.poly(1), Expect.poly(2));
        hasNoQuotient(Expect.poly(1), Expect.poly(0, 1));
        hasNoQuotient(Expect.poly(0, 0, 0, 0, 0, 0, 1), Expect.poly(0, 0, 0, 0, 0, 0, 0, 1));
        hasNoQuotient(Expect.poly(3, 2), Expect.poly(2));
        hasNoQuotient(Expect.poly(2, 3), Expect.poly(2));
        hasNoQuotient(Expect.poly(-1, 0, 1), Expect.poly(2, 2));
        hasNoQuotient(Expect.poly(1, 0, 1), Expect.poly(1, 1));
        hasNoQuotient(Expect.poly(1, 0, 0, 0, 0, 0, 0, 1), Expect.poly(0, 1));
        hasNoQuotient(Expect.poly(0, 0, 0, 0, 0, 0, 0, 99998), Expect.poly(0, 0, 0, 0, 0, 0, 0, 99999));
        // on the way the numbers grow to 99999^8, beyond a long, and to 2^112, which a long takes for 0
        hasNoQuotient(Expect.poly(1, 0, 0, 0, 0, 0, 0, 99999), Expect.poly(99999, 1));
        hasNoQuotient(Expect.poly(0, 0, 0, 0, 0, 0, 0, 1), Expect.poly(65536, 1));
    }

    private static void hasNoQuotient(int[] a, int[] b) {
        Boundary.refuses("divide " + Expect.row(a) + " by " + Expect.row(b), Boundary.two(a, b), Expect.ARITHMETIC,
            x -> x.divide(0, 0, 1));
    }

    /** The quotients have 100000 at place 1, or -100000, or 100003. */
    private static void divideBeyond() {
        quotientBeyond(Expect.poly(-50001, -49999, 50000, 50000), Expect.poly(-1, 1));
        quotientBeyond(Expect.poly(50001, -49999, -50000, 50000), Expect.poly(1, 1));
        quotientBeyond(Boundary.WIDE, Expect.poly(1, -1));
    }

    private static void quotientBeyond(int[] a, int[] b) {
        Boundary.refuses("divide " + Expect.row(a) + " by " + Expect.row(b), Boundary.two(a, b), Expect.STATE,
            x -> x.divide(0, 0, 1));
    }

    private static void commonOnes() {
        inAllRegisters("common", new int[] {12, -18, 5, 0}, (a, b) -> divisorOf(Math.abs(a), Math.abs(b)),
            (x, to, a, b) -> x.common(to, a, b));
        hasCommon(Expect.poly(50001, 99999, 50000), Expect.poly(-50001, -49998, 49999, 50000),
            Expect.poly(50001, 49998, 2, 49999, 50000));
        hasCommon(Expect.poly(50001, -99999, 50000), Expect.poly(50001, -49998, -49999, 50000),
            Expect.poly(50001, -49998, 2, -49999, 50000));
        hasCommon(Expect.poly(99999), Expect.poly(0, 99999), Expect.poly(-99999, 99999));
        hasCommon(Expect.poly(1), Expect.poly(99999), Expect.poly(0, 0, 0, 0, 0, 0, 0, 99998));
    }

    private static int divisorOf(int a, int b) {
        return b == 0 ? a : divisorOf(b, a % b);
    }

    private static void hasCommon(int[] due, int[] a, int[] b) {
        Boundary.gives("common of " + Expect.row(a) + " and " + Expect.row(b), Boundary.two(a, b), due.length - 1, 1,
            due, x -> x.common(1, 0, 1));
    }

    private static void commonNoRegister() {
        Boundary.refusesRegisters("common", (x, to, a, b) -> x.common(to, a, b));
    }

    /** What is common has 100000 at place 1, or -100000, or 100003. */
    private static void commonBeyond() {
        commonBeyond(Expect.poly(-50001, -49999, 50000, 50000), Expect.poly(50001, 49999, 1, 50000, 50000));
        commonBeyond(Expect.poly(50001, -49999, -50000, 50000), Expect.poly(50001, -49999, 1, -50000, 50000));
        commonBeyond(Boundary.WIDE, Boundary.WIDE_TOO);
    }

    private static void commonBeyond(int[] a, int[] b) {
        String what = "common of " + Expect.row(a) + " and " + Expect.row(b);
        Boundary.refuses(what, Boundary.two(a, b), Expect.STATE, x -> x.common(0, 0, 1));
        Boundary.refuses(what + ", turned", Boundary.two(a, b), Expect.STATE, x -> x.common(3, 1, 0));
    }

    private static void values() {
        hasValue(0L, 9);
        hasValue(0L, -9);
        hasValue(-99999L, 9, -99999);
        hasValue(7L, 0, 7, 99999, 99999);
        hasValue(99999L * 4782969L, 9, 0, 0, 0, 0, 0, 0, 0, 99999);
        hasValue(99999L * -4782969L, -9, 0, 0, 0, 0, 0, 0, 0, 99999);
        hasValue(99999L * 5380840L, 9, 99999, 99999, 99999, 99999, 99999, 99999, 99999, 99999);
        hasValue(-99999L * 5380840L, -9, -99999, 99999, -99999, 99999, -99999, 99999, -99999, 99999);
        for (int r = 0; r < 4; r++) {
            int at = r;
            IntegerSplitter x = Boundary.numbers(3, 4, 5, 6);
            Expect.answer("value(" + r + ", 1)", 3L + r, () -> x.value(at, 1));
        }
    }

    private static void hasValue(long due, int at, int... c) {
        IntegerSplitter x = Expect.loaded(c);
        Expect.answer("value of " + Expect.row(c) + " with " + at, due, () -> x.value(0, at));
    }

    private static void valueNoRegister() {
        Boundary.refusesEach("value of register", Boundary.NO_REGISTERS, Expect.INDEX, (x, r) -> x.value(r, 1));
    }

    private static void valueTooFar() {
        Boundary.refusesEach("value", Boundary.TOO_FAR, Expect.ARGUMENT, (x, at) -> x.value(1, at));
        Boundary.refusesEach("value of 0", Boundary.TOO_FAR, Expect.ARGUMENT, (x, at) -> x.value(3, at));
    }

    private static void contents() {
        IntegerSplitter x = Boundary.numbers(-99999, 1, 0, -1);
        int[] due = {99999, 1, 0, 1};
        for (int r = 0; r < 4; r++) {
            int at = r;
            Expect.answer("content(" + r + ")", due[r], () -> x.content(at));
        }
        hasContent(1, 8, 8, 8, 8, 8, 8, 8, 1);
        hasContent(1, 1, 8, 8, 8, 8, 8, 8, 8);
        hasContent(8, 0, 0, 0, 0, 0, 0, 0, -8);
        hasContent(99999, Boundary.AT_LIMITS);
    }

    private static void hasContent(int due, int... c) {
        IntegerSplitter x = Expect.loaded(c);
        Expect.answer("content of " + Expect.row(c), due, () -> x.content(0));
    }

    private static void contentNoRegister() {
        Boundary.refusesEach("content of register", Boundary.NO_REGISTERS, Expect.INDEX, (x, r) -> x.content(r));
    }
}
