/**
 * Promises 13 to 18 with every polynomial of at most degree 4 and coefficients -2 .. 2, against factors that
 * are found by trying every divisor.
 */
public final class SmallPolynomialsTest {
    // a divisor of degree 1 or 2 of such a polynomial has no coefficient beyond 2 * 2 * sqrt(5)
    private static final int WIDEST = 8;

    public static void main(String[] args) {
        IntegerSplitter x = new IntegerSplitter();
        for (int code = 0; code < 3125; code++) {
            int[] c = new int[5];
            int left = code;
            for (int k = 0; k < 5; k++) {
                c[k] = left % 5 - 2;
                left /= 5;
            }
            // some on one object, so that what is left of the one before would be seen
            x = code % 5 == 0 ? new IntegerSplitter() : x;
            if (!Expect.row(c).equals("[]")) {
                matches(x, c);
            }
        }
        Expect.end();
    }

    private static void matches(IntegerSplitter x, int[] c) {
        Expect.load(x, 0, c);
        String row = Expect.row(c);
        String due = byTrying(c);
        Expect.answer("factor of " + row, due.split("\\*").length - 1, () -> x.factor(0));
        Expect.answer("told of " + row, due, () -> Expect.told(x));
        if (degree(c) > 0) {
            boolean prime = due.matches("-?1 1\\*\\[[^*]*");
            Expect.answer("prime of " + row, prime, () -> x.prime(0));
        }
    }

    /** The divisors are tried in the order in which factors stand, so each found one is simple. */
    private static String byTrying(int[] c) {
        StringBuilder text = new StringBuilder();
        int[] rest = c.clone();
        int unit = 0;
        for (int each : rest) {
            unit = gcd(unit, each);
        }
        unit = rest[degree(rest)] < 0 ? -unit : unit;
        for (int k = 0; k < rest.length; k++) {
            rest[k] /= unit;
        }
        for (int lead = 1; lead <= 2; lead++) {
            for (int last = -2; last <= 2; last++) {
                rest = without(rest, text, last, lead);
            }
        }
        for (int lead = 1; lead <= 2; lead++) {
            for (int middle = -WIDEST; middle <= WIDEST; middle++) {
                for (int last = -2; last <= 2; last++) {
                    rest = without(rest, text, last, middle, lead);
                }
            }
        }
        if (degree(rest) > 0) {
            text.append(" 1*").append(Expect.row(rest));
        }
        return unit + text.toString();
    }

    private static int[] without(int[] whole, StringBuilder text, int... divisor) {
        int[] rest = whole;
        int[] quotient = quotient(rest, divisor);
        int times = 0;
        while (quotient != null) {
            rest = quotient;
            times++;
            quotient = quotient(rest, divisor);
        }
        if (times > 0) {
            text.append(' ').append(times).append('*').append(Expect.row(divisor));
        }
        return rest;
    }

    private static int[] quotient(int[] a, int[] divisor) {
        int low = degree(divisor);
        int[] rest = a.clone();
        int[] quotient = new int[a.length];
        for (int k = degree(a) - low; k >= 0; k--) {
            if (rest[k + low] % divisor[low] != 0) {
                return null;
            }
            quotient[k] = rest[k + low] / divisor[low];
            for (int j = 0; j <= low; j++) {
                rest[k + j] -= quotient[k] * divisor[j];
            }
        }
        return degree(rest) < 0 ? quotient : null;
    }

    private static int degree(int[] c) {
        int k = c.length - 1;
        while (k >= 0 && c[k] == 0) {
            k--;
        }
        return k;
    }

    private static int gcd(int a, int b) {
        return b == 0 ? Math.abs(a) : gcd(b, a % b);
    }
}
