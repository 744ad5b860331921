import java.util.Arrays;
import java.util.Random;

/** Promises 19 and 20: modular and roots, against counts that are made by trying every divisor. */
public final class ModularTest {
    private static final int[] PRIMES = {2, 3, 5, 7, 11, 13};

    public static void main(String[] args) {
        known();
        wrongInputs();
        everySmallOne();
        Random random = new Random(20);
        for (int i = 0; i < 120; i++) {
            int[] c = new int[1 + random.nextInt(8)];
            int most = i % 3 == 0 ? 99999 : 1 + random.nextInt(30);
            for (int k = 0; k < c.length; k++) {
                c[k] = random.nextInt(2 * most + 1) - most;
            }
            matches(c);
        }
        Expect.end();
    }

    private static void known() {
        IntegerSplitter x = Expect.loaded(-1, 0, 0, 0, 1);
        int[] modular = {1, 3, 4, 3, 3, 4};
        int[] roots = {1, 2, 4, 2, 2, 4};
        for (int i = 0; i < PRIMES.length; i++) {
            int p = PRIMES[i];
            Expect.answer("modular of x^4 - 1 with " + p, modular[i], () -> x.modular(0, p));
            Expect.answer("roots of x^4 - 1 with " + p, roots[i], () -> x.roots(0, p));
            Expect.answer("modular of 0 with " + p, -1, () -> x.modular(3, p));
            Expect.answer("roots of 0 with " + p, p, () -> x.roots(3, p));
        }
        // 0 modulo 2, 3 and 5; a number modulo 7 and 11; x with 13
        Expect.load(x, 1, 30 * 13, 30 * 77);
        int[] second = {-1, -1, -1, 0, 0, 1};
        int[] secondRoots = {2, 3, 5, 0, 0, 1};
        for (int i = 0; i < PRIMES.length; i++) {
            int p = PRIMES[i];
            Expect.answer("modular of 2310 x + 390 with " + p, second[i], () -> x.modular(1, p));
            Expect.answer("roots of 2310 x + 390 with " + p, secondRoots[i], () -> x.roots(1, p));
        }
        Expect.load(x, 2, -7);
        Expect.answer("modular of -7 with 7", -1, () -> x.modular(2, 7));
        Expect.answer("modular of -7 with 5", 0, () -> x.modular(2, 5));
        Expect.answer("roots of -7 with 7", 7, () -> x.roots(2, 7));
        Expect.answer("roots of -7 with 5", 0, () -> x.roots(2, 5));
        // x^7 - x is x (x - 1) .. (x - 6) modulo 7
        Expect.load(x, 0, 0, -1, 0, 0, 0, 0, 0, 1);
        Expect.answer("modular of x^7 - x with 7", 7, () -> x.modular(0, 7));
        Expect.answer("roots of x^7 - x with 7", 7, () -> x.roots(0, 7));
        // (x + 1)^7: one that divides, however often
        Expect.load(x, 0, 1, 7, 21, 35, 35, 21, 7, 1);
        Expect.answer("modular of (x + 1)^7 with 7", 1, () -> x.modular(0, 7));
        Expect.answer("modular of (x + 1)^7 with 2", 1, () -> x.modular(0, 2));
        // x^7 + x + 1 can't be taken apart modulo 2
        Expect.load(x, 0, 1, 1, 0, 0, 0, 0, 0, 1);
        Expect.answer("modular of x^7 + x + 1 with 2", 1, () -> x.modular(0, 2));
        Expect.answer("roots of x^7 + x + 1 with 2", 0, () -> x.roots(0, 2));
    }

    private static void wrongInputs() {
        for (int r : new int[] {-1, 4, Integer.MIN_VALUE, Integer.MAX_VALUE}) {
            IntegerSplitter x = Expect.loaded(1, 1);
            Expect.refusal("modular(" + r + ", 2)", x, Expect.INDEX, () -> x.modular(r, 2));
            Expect.refusal("modular(" + r + ", 4)", x, Expect.INDEX, () -> x.modular(r, 4));
            Expect.refusal("roots(" + r + ", 2)", x, Expect.INDEX, () -> x.roots(r, 2));
            Expect.refusal("roots(" + r + ", 4)", x, Expect.INDEX, () -> x.roots(r, 4));
        }
        int[] wrong = {-13, -2, -1, 0, 1, 4, 6, 8, 9, 10, 12, 14, 15, 17, 19, 2147483647, Integer.MIN_VALUE};
        for (int p : wrong) {
            IntegerSplitter x = Expect.loaded(1, 1);
            Expect.refusal("modular(0, " + p + ")", x, Expect.ARGUMENT, () -> x.modular(0, p));
            Expect.refusal("modular(3, " + p + ")", x, Expect.ARGUMENT, () -> x.modular(3, p));
            Expect.refusal("roots(0, " + p + ")", x, Expect.ARGUMENT, () -> x.roots(0, p));
        }
    }

    private static void everySmallOne() {
        for (int code = 0; code < 256; code++) {
            int[] c = new int[8];
            for (int k = 0; k < 8; k++) {
                c[k] = code >> k & 1;
            }
            IntegerSplitter x = Expect.loaded(c);
            Expect.answer("modular of " + Expect.row(c) + " with 2", countByTrying(c, 2), () -> x.modular(0, 2));
        }
    }

    private static void matches(int[] c) {
        IntegerSplitter x = Expect.loaded(c);
        for (int p : PRIMES) {
            Expect.answer("modular of " + Expect.row(c) + " with " + p, countByTrying(c, p), () -> x.modular(0, p));
            Expect.answer("roots of " + Expect.row(c) + " with " + p, rootsByTrying(c, p), () -> x.roots(0, p));
        }
    }

    private static int rootsByTrying(int[] c, int p) {
        int count = 0;
        for (int at = 0; at < p; at++) {
            long sum = 0;
            long power = 1;
            for (int k = 0; k < c.length; k++) {
                sum += c[k] * power;
                power *= at;
            }
            count += sum % p == 0 ? 1 : 0;
        }
        return count;
    }

    /** Divides by every monic polynomial of degree 1, 2 and 3; what is left then is simple or a number. */
    private static int countByTrying(int[] c, int p) {
        int[] rest = new int[c.length];
        for (int k = 0; k < c.length; k++) {
            rest[k] = Math.floorMod(c[k], p);
        }
        rest = trimmed(rest);
        int count = rest.length == 0 ? -1 : 0;
        for (int degree = 1; degree <= 3; degree++) {
            int[] divisor = new int[degree + 1];
            divisor[degree] = 1;
            do {
                int[] quotient = quotient(rest, divisor, p);
                count += quotient == null ? 0 : 1;
                while (quotient != null) {
                    rest = quotient;
                    quotient = quotient(rest, divisor, p);
                }
            } while (countUp(divisor, p));
        }
        return rest.length > 1 ? count + 1 : count;
    }

    private static boolean countUp(int[] divisor, int p) {
        for (int k = 0; k < divisor.length - 1; k++) {
            divisor[k]++;
            if (divisor[k] < p) {
                return true;
            }
            divisor[k] = 0;
        }
        return false;
    }

    /** Null when the monic divisor does not divide, or nothing is there to be divided. */
    private static int[] quotient(int[] a, int[] divisor, int p) {
        int low = divisor.length - 1;
        if (a.length <= low) {
            return null;
        }
        int[] rest = a.clone();
        int[] quotient = new int[a.length - low];
        for (int k = quotient.length - 1; k >= 0; k--) {
            quotient[k] = rest[k + low];
            for (int j = 0; j <= low; j++) {
                rest[k + j] = Math.floorMod(rest[k + j] - quotient[k] * divisor[j], p);
            }
        }
        return trimmed(rest).length == 0 ? quotient : null;
    }

    private static int[] trimmed(int[] c) {
        int length = c.length;
        while (length > 0 && c[length - 1] == 0) {
            length--;
        }
        return Arrays.copyOf(c, length);
    }
}
