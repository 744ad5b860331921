/** Promises 5 to 12: add, multiply, derive, shift, divide, common, value, content. */
public final class ReckoningTest {
    public static void main(String[] args) {
        wrongRegisters();
        add();
        multiply();
        multiplyGreatNumbers();
        derive();
        shift();
        divide();
        divideByNumbers();
        divideWithRemainders();
        divideGreatNumbers();
        common();
        commonOfUnluckyPrimes();
        value();
        content();
        Expect.end();
    }

    private static void wrongRegisters() {
        for (int r : new int[] {-1, 4, Integer.MIN_VALUE, Integer.MAX_VALUE}) {
            for (int place = 0; place < 3; place++) {
                IntegerSplitter x = Expect.loaded(3, 1);
                int to = place == 0 ? r : 1;
                int a = place == 1 ? r : 0;
                int b = place == 2 ? r : 0;
                String where = "(" + to + ", " + a + ", " + b + ")";
                Expect.refusal("add" + where, x, Expect.INDEX, () -> x.add(to, a, b, true));
                Expect.refusal("multiply" + where, x, Expect.INDEX, () -> x.multiply(to, a, b));
                Expect.refusal("divide" + where, x, Expect.INDEX, () -> x.divide(to, a, b));
                Expect.refusal("common" + where, x, Expect.INDEX, () -> x.common(to, a, b));
                IntegerSplitter y = Expect.loaded(3, 1);
                if (place < 2) {
                    Expect.refusal("derive" + where, y, Expect.INDEX, () -> y.derive(to, a));
                    Expect.refusal("shift" + where, y, Expect.INDEX, () -> y.shift(to, a, 1));
                    Expect.refusal("shift" + where + " by 10", y, Expect.INDEX, () -> y.shift(to, a, 10));
                }
            }
            IntegerSplitter x = Expect.loaded(3, 1);
            Expect.refusal("value(" + r + ", 10)", x, Expect.INDEX, () -> x.value(r, 10));
            Expect.refusal("content(" + r + ")", x, Expect.INDEX, () -> x.content(r));
        }
        IntegerSplitter x = Expect.loaded(3, 1);
        Expect.refusal("divide(4, 0, 2), by 0 too", x, Expect.INDEX, () -> x.divide(4, 0, 2));
    }

    private static void add() {
        IntegerSplitter x = Expect.loaded(1, 2, 3);
        Expect.load(x, 1, 5, -2, -3);
        Expect.answer("add", 0, () -> x.add(2, 0, 1, false));
        Expect.answer("add: register 2", "[6]", () -> Expect.register(x, 2));
        Expect.answer("add minus", 2, () -> x.add(2, 0, 1, true));
        Expect.answer("add minus: register 2", "[-4, 4, 6]", () -> Expect.register(x, 2));
        Expect.answer("add to itself", 2, () -> x.add(0, 0, 0, false));
        Expect.answer("add to itself: register 0", "[2, 4, 6]", () -> Expect.register(x, 0));
        Expect.answer("add minus itself", -1, () -> x.add(0, 0, 0, true));
        Expect.answer("add minus itself: register 0", "[]", () -> Expect.register(x, 0));
        Expect.load(x, 0, 0, 0, 0, 0, 0, 0, 0, 99999);
        Expect.load(x, 1, 0, 0, 0, 0, 0, 0, 0, 1);
        Expect.refusal("add beyond", x, Expect.STATE, () -> x.add(2, 0, 1, false));
        Expect.answer("add up to", 7, () -> x.add(2, 0, 1, true));
        x.add(3, 3, 0, true);
        Expect.answer("least", "[0, 0, 0, 0, 0, 0, 0, -99999]", () -> Expect.register(x, 3));
        Expect.refusal("add minus beyond", x, Expect.STATE, () -> x.add(3, 3, 1, true));
    }

    private static void multiply() {
        IntegerSplitter x = Expect.loaded(-1, 1);
        Expect.load(x, 1, 1, 1, 1);
        Expect.answer("multiply", 3, () -> x.multiply(2, 0, 1));
        Expect.answer("multiply: register 2", "[-1, 0, 0, 1]", () -> Expect.register(x, 2));
        Expect.answer("multiply itself", 2, () -> x.multiply(0, 0, 0));
        Expect.answer("multiply itself: register 0", "[1, -2, 1]", () -> Expect.register(x, 0));
        Expect.answer("multiply by 0", -1, () -> x.multiply(0, 0, 3));
        Expect.load(x, 0, 0, 0, 0, 1);
        Expect.load(x, 1, 0, 0, 0, 0, 1);
        Expect.answer("multiply to degree 7", 7, () -> x.multiply(2, 0, 1));
        Expect.refusal("multiply to degree 8", x, Expect.STATE, () -> x.multiply(0, 1, 1));
        Expect.load(x, 0, 0, 0, 0, 0, 0, 0, 0, 1);
        Expect.refusal("multiply to degree 14", x, Expect.STATE, () -> x.multiply(0, 0, 0));
        Expect.answer("multiply degree 7 by 0", -1, () -> x.multiply(0, 0, 3));
    }

    private static void multiplyGreatNumbers() {
        IntegerSplitter x = Expect.loaded(333);
        Expect.load(x, 1, 0, 300);
        Expect.answer("multiply to 99900", 1, () -> x.multiply(2, 0, 1));
        Expect.load(x, 1, 0, -301);
        Expect.refusal("multiply to -100233", x, Expect.STATE, () -> x.multiply(2, 0, 1));
        Expect.load(x, 0, 99999, 99999, 99999, 99999);
        Expect.refusal("multiply beyond an int", x, Expect.STATE, () -> x.multiply(2, 0, 0));
        // modulo 2^32 this would be 0
        Expect.load(x, 0, 65536);
        Expect.refusal("multiply to 2^32", x, Expect.STATE, () -> x.multiply(2, 0, 0));
    }

    private static void derive() {
        IntegerSplitter x = Expect.loaded(9, 8, 7, 6, 5, 4, 3, 2);
        Expect.answer("derive", 6, () -> x.derive(1, 0));
        Expect.answer("derive: register 1", "[8, 14, 18, 20, 20, 18, 14]", () -> Expect.register(x, 1));
        Expect.answer("derive itself", 5, () -> x.derive(1, 1));
        Expect.answer("derive itself: register 1", "[14, 36, 60, 80, 90, 84]", () -> Expect.register(x, 1));
        Expect.load(x, 2, 5);
        Expect.answer("derive a number", -1, () -> x.derive(2, 2));
        Expect.answer("derive 0", -1, () -> x.derive(1, 3));
        Expect.answer("derive 0: register 1", "[]", () -> Expect.register(x, 1));
        Expect.load(x, 0, 0, 99999, 0, 0, 0, 0, 0, 14285);
        Expect.answer("derive up to 99995", 6, () -> x.derive(1, 0));
        Expect.load(x, 0, 0, 0, 0, 0, 0, 0, 0, -14286);
        Expect.refusal("derive beyond", x, Expect.STATE, () -> x.derive(0, 0));
    }

    private static void shift() {
        IntegerSplitter x = Expect.loaded(0, 0, 0, 1);
        Expect.answer("shift by 2", 3, () -> x.shift(1, 0, 2));
        Expect.answer("shift by 2: register 1", "[8, 12, 6, 1]", () -> Expect.register(x, 1));
        Expect.answer("shift back", 3, () -> x.shift(1, 1, -2));
        Expect.answer("shift back: register 1", "[0, 0, 0, 1]", () -> Expect.register(x, 1));
        Expect.answer("shift by -9", 3, () -> x.shift(1, 1, -9));
        Expect.answer("shift by -9: register 1", "[-729, 243, -27, 1]", () -> Expect.register(x, 1));
        Expect.answer("shift by 9", 3, () -> x.shift(1, 1, 9));
        Expect.answer("shift by 0", 3, () -> x.shift(2, 1, 0));
        Expect.answer("shift by 0: register 2", "[0, 0, 0, 1]", () -> Expect.register(x, 2));
        Expect.answer("shift 0", -1, () -> x.shift(1, 3, 9));
        Expect.load(x, 0, 0, 0, 0, 0, 0, 0, 0, 1);
        Expect.answer("shift of degree 7", 7, () -> x.shift(1, 0, -1));
        Expect.answer("shift of degree 7: register 1", "[-1, 7, -21, 35, -35, 21, -7, 1]",
            () -> Expect.register(x, 1));
        Expect.refusal("shift beyond", x, Expect.STATE, () -> x.shift(0, 0, 9));
        Expect.load(x, 0, 99999, 0, 0, 0, 0, 0, 0, 99999);
        Expect.refusal("shift far beyond", x, Expect.STATE, () -> x.shift(1, 0, -9));
        for (int h : new int[] {10, -10, Integer.MIN_VALUE, Integer.MAX_VALUE}) {
            IntegerSplitter y = Expect.loaded(99999, 0, 0, 0, 0, 0, 0, 99999);
            Expect.refusal("shift by " + h, y, Expect.ARGUMENT, () -> y.shift(1, 0, h));
            Expect.refusal("shift 0 by " + h, y, Expect.ARGUMENT, () -> y.shift(1, 3, h));
        }
    }

    private static void divide() {
        IntegerSplitter x = Expect.loaded(-1, 0, 0, 0, 0, 0, 1);
        Expect.load(x, 1, 1, 1, 1);
        Expect.answer("divide", 4, () -> x.divide(2, 0, 1));
        Expect.answer("divide: register 2", "[-1, 1, 0, -1, 1]", () -> Expect.register(x, 2));
        Expect.answer("divide by itself", 0, () -> x.divide(1, 1, 1));
        Expect.answer("divide by itself: register 1", "[1]", () -> Expect.register(x, 1));
        Expect.answer("divide 0", -1, () -> x.divide(2, 3, 0));
        Expect.answer("divide 0: register 2", "[]", () -> Expect.register(x, 2));
        Expect.refusal("divide by 0", x, Expect.ARITHMETIC, () -> x.divide(1, 0, 3));
        Expect.refusal("divide 0 by 0", x, Expect.ARITHMETIC, () -> x.divide(1, 3, 3));
    }

    private static void divideByNumbers() {
        IntegerSplitter x = Expect.loaded(4, 6);
        Expect.load(x, 1, -2);
        Expect.answer("divide by a number", 1, () -> x.divide(2, 0, 1));
        Expect.answer("divide by a number: register 2", "[-2, -3]", () -> Expect.register(x, 2));
        Expect.load(x, 1, 4);
        Expect.refusal("divide by a number that isn't in all", x, Expect.ARITHMETIC, () -> x.divide(2, 0, 1));
        Expect.load(x, 1, 4, 6, 1);
        Expect.refusal("divide by a greater degree", x, Expect.ARITHMETIC, () -> x.divide(2, 0, 1));
    }

    private static void divideWithRemainders() {
        // 2 x + 2 divides x x - 1 only with fractions
        IntegerSplitter x = Expect.loaded(-1, 0, 1);
        Expect.load(x, 1, 2, 2);
        Expect.refusal("divide with fractions", x, Expect.ARITHMETIC, () -> x.divide(2, 0, 1));
        Expect.load(x, 1, 1, -1);
        Expect.answer("divide by what leads with -1", 1, () -> x.divide(2, 0, 1));
        Expect.answer("divide by what leads with -1: register 2", "[-1, -1]", () -> Expect.register(x, 2));
        Expect.load(x, 1, 2, 1);
        Expect.refusal("divide with a remainder", x, Expect.ARITHMETIC, () -> x.divide(2, 0, 1));
    }

    private static void divideGreatNumbers() {
        IntegerSplitter x = Expect.loaded(1, 0, 0, 0, 0, 0, 0, 99999);
        Expect.load(x, 1, 99999, 1);
        Expect.refusal("divide with long steps", x, Expect.ARITHMETIC, () -> x.divide(2, 0, 1));
        // the remainder is -2^112, which would be 0 in a long that runs over
        Expect.load(x, 0, 0, 0, 0, 0, 0, 0, 0, 1);
        Expect.load(x, 1, 65536, 1);
        Expect.refusal("divide with steps that run over", x, Expect.ARITHMETIC, () -> x.divide(2, 0, 1));
        Expect.load(x, 0, -50003, -50000, 50002, 50001);
        Expect.load(x, 1, -1, 1);
        Expect.refusal("divide beyond", x, Expect.STATE, () -> x.divide(2, 0, 1));
    }

    private static void common() {
        IntegerSplitter x = Expect.loaded(-1, 0, 0, 0, 0, 0, 1);
        Expect.load(x, 1, -1, 0, 0, 0, 1);
        Expect.answer("common", 2, () -> x.common(2, 0, 1));
        Expect.answer("common: register 2", "[-1, 0, 1]", () -> Expect.register(x, 2));
        Expect.answer("common of 0 and 0", -1, () -> x.common(2, 3, 3));
        Expect.answer("common of 0 and 0: register 2", "[]", () -> Expect.register(x, 2));
        Expect.load(x, 0, 4, -6);
        Expect.answer("common with 0", 1, () -> x.common(2, 0, 3));
        Expect.answer("common with 0: register 2", "[-4, 6]", () -> Expect.register(x, 2));
        Expect.answer("common of 0 with", 1, () -> x.common(0, 3, 0));
        Expect.answer("common of 0 with: register 0", "[-4, 6]", () -> Expect.register(x, 0));
        Expect.load(x, 1, -9);
        Expect.answer("common of a number", 0, () -> x.common(2, 1, 3));
        Expect.answer("common of a number: register 2", "[9]", () -> Expect.register(x, 2));
        Expect.load(x, 0, 12, 18);
        Expect.answer("common of numbers", 0, () -> x.common(2, 0, 1));
        Expect.answer("common of numbers: register 2", "[3]", () -> Expect.register(x, 2));
        // (2 x + 1) (x - 3) 6 and -(2 x + 1) (x + 5) 10
        Expect.load(x, 0, -18, -30, 12);
        Expect.load(x, 1, -50, -110, -20);
        Expect.answer("common with contents", 1, () -> x.common(2, 0, 1));
        Expect.answer("common with contents: register 2", "[2, 4]", () -> Expect.register(x, 2));
        // h = 60001 + 120001 x + 60000 x x stays small times x - 1 and times x x - x + 1
        Expect.load(x, 0, -60001, -60000, 60001, 60000);
        Expect.load(x, 1, 60001, 60000, 0, 60001, 60000);
        Expect.refusal("common beyond", x, Expect.STATE, () -> x.common(0, 0, 1));
    }

    private static void commonOfUnluckyPrimes() {
        // the resultant is 46340 * 46342 - 41 * 113 = 2^31 - 1
        IntegerSplitter x = Expect.loaded(41, 46340);
        Expect.load(x, 1, 46342, 113);
        Expect.answer("common, resultant a large prime", 0, () -> x.common(2, 0, 1));
        Expect.answer("common, resultant a large prime: register 2", "[1]", () -> Expect.register(x, 2));
        // the discriminant is 1 - 2^31
        Expect.load(x, 0, 32768, 1, 16384);
        Expect.load(x, 1, 1, 32768);
        Expect.answer("common with the derivative", 0, () -> x.common(2, 0, 1));
        Expect.answer("common with the derivative: register 2", "[1]", () -> Expect.register(x, 2));
        Expect.answer("factor, discriminant a large prime", 1, () -> x.factor(0));
        Expect.answer("prime, discriminant a large prime", true, () -> x.prime(0));
    }

    private static void value() {
        IntegerSplitter x = Expect.loaded(1, -2, 0, 3);
        Expect.answer("value with 0", 1L, () -> x.value(0, 0));
        Expect.answer("value with 1", 2L, () -> x.value(0, 1));
        Expect.answer("value with -2", -19L, () -> x.value(0, -2));
        Expect.answer("value of 0", 0L, () -> x.value(3, 9));
        Expect.load(x, 1, 99999, 99999, 99999, 99999, 99999, 99999, 99999, 99999);
        Expect.answer("greatest value", 99999L * 5380840L, () -> x.value(1, 9));
        Expect.answer("least value", 99999L * -4304672L, () -> x.value(1, -9));
        for (int at : new int[] {10, -10, Integer.MIN_VALUE, Integer.MAX_VALUE}) {
            Expect.refusal("value with " + at, x, Expect.ARGUMENT, () -> x.value(0, at));
        }
    }

    private static void content() {
        IntegerSplitter x = Expect.loaded(0, -12, 0, 18, 30);
        Expect.answer("content", 6, () -> x.content(0));
        Expect.answer("content of 0", 0, () -> x.content(1));
        Expect.load(x, 0, -7);
        Expect.answer("content of -7", 7, () -> x.content(0));
        Expect.load(x, 0, 6, 10, 15);
        Expect.answer("content of 6, 10, 15", 1, () -> x.content(0));
        Expect.load(x, 0, -99999, 0, 0, 0, 0, 0, 0, -99999);
        Expect.answer("content of -99999", 99999, () -> x.content(0));
    }
}
