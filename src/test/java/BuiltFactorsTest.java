import java.util.ArrayList;
import java.util.List;
import java.util.Random;

/**
 * Promises 13 to 18 with products whose factors are known without taking them apart: each factor is simple by
 * Eisenstein's rule (a prime divides all coefficients but the leading one, its square not c(0)), and moved.
 */
public final class BuiltFactorsTest {
    private static final int[] PRIMES = {2, 3, 5, 7};
    private static final long LIMIT = 99999;

    private static final class Factor {
        final long[] c;
        int times = 1;

        Factor(long[] c) {
            this.c = c;
        }
    }

    public static void main(String[] args) {
        Random random = new Random(13);
        IntegerSplitter x = new IntegerSplitter();
        int done = 0;
        for (int i = 0; i < 40000 && done < 6000; i++) {
            List<Factor> factors = someFactors(random);
            long unit = random.nextInt(3) == 0 ? random.nextInt(41) - 20 : random.nextInt(2) * 2 - 1;
            long[] whole = whole(unit, factors);
            if (unit != 0 && fits(whole)) {
                // some on one object, so that what is left of the one before would be seen
                x = done % 5 == 0 ? new IntegerSplitter() : x;
                matches(x, whole, unit, factors);
                done++;
            }
        }
        boolean enough = done >= 3000;
        Expect.answer("3000 polynomials at least", true, () -> enough);
        Expect.end();
    }

    private static List<Factor> someFactors(Random random) {
        List<Factor> factors = new ArrayList<>();
        int room = 7;
        while (room > 0 && random.nextInt(6) > 0) {
            int degree = 1 + random.nextInt(Math.min(room, random.nextBoolean() ? 2 : 6));
            Factor factor = new Factor(moved(eisenstein(random, degree), random.nextInt(3) - 1));
            Factor same = sameAs(factor, factors);
            if (same == null) {
                factors.add(factor);
            }
            room -= degree;
            while (room >= degree && same == null && random.nextInt(4) == 0) {
                factor.times++;
                room -= degree;
            }
        }
        factors.sort((a, b) -> compare(a.c, b.c));
        return factors;
    }

    private static Factor sameAs(Factor factor, List<Factor> factors) {
        for (Factor other : factors) {
            if (compare(other.c, factor.c) == 0) {
                return other;
            }
        }
        return null;
    }

    private static long[] eisenstein(Random random, int degree) {
        if (degree == 1) {
            long lead = 1 + random.nextInt(3);
            long last = random.nextInt(19) - 9;
            // 2 x + 4 is not simple
            return gcd(lead, last) == 1 ? new long[] {last, lead} : new long[] {last, 1};
        }
        int p = PRIMES[random.nextInt(PRIMES.length)];
        long[] c = new long[degree + 1];
        for (int k = 1; k < degree; k++) {
            c[k] = p * (random.nextInt(5) - 2);
        }
        c[0] = random.nextBoolean() ? p : -p;
        // c(0) is p or -p, so with a leading coefficient that p does not divide the content is 1
        c[degree] = 1 + random.nextInt(p == 2 ? 1 : 2);
        return c;
    }

    private static long gcd(long a, long b) {
        return b == 0 ? Math.abs(a) : gcd(b, a % b);
    }

    private static long[] moved(long[] c, int h) {
        long[] result = new long[c.length];
        for (int k = c.length - 1; k >= 0; k--) {
            for (int j = c.length - 1; j > 0; j--) {
                result[j] = result[j] * h + result[j - 1];
            }
            result[0] = result[0] * h + c[k];
        }
        return result;
    }

    private static int compare(long[] a, long[] b) {
        int order = Integer.compare(a.length, b.length);
        for (int k = a.length - 1; k >= 0 && order == 0; k--) {
            order = Long.compare(a[k], b[k]);
        }
        return order;
    }

    private static long[] whole(long unit, List<Factor> factors) {
        long[] whole = {unit};
        for (Factor factor : factors) {
            for (int i = 0; i < factor.times; i++) {
                long[] next = new long[whole.length + factor.c.length - 1];
                for (int j = 0; j < whole.length; j++) {
                    for (int k = 0; k < factor.c.length; k++) {
                        next[j + k] += whole[j] * factor.c[k];
                    }
                }
                whole = next;
            }
        }
        return whole;
    }

    private static boolean fits(long[] whole) {
        for (long c : whole) {
            if (Math.abs(c) > LIMIT) {
                return false;
            }
        }
        return whole.length <= 8;
    }

    private static void matches(IntegerSplitter x, long[] whole, long unit, List<Factor> factors) {
        int[] c = ints(whole);
        String row = Expect.row(c);
        Expect.load(x, 0, c);
        StringBuilder due = new StringBuilder();
        due.append(unit);
        for (Factor factor : factors) {
            due.append(' ').append(factor.times).append('*').append(Expect.row(ints(factor.c)));
        }
        Expect.answer("factor of " + row, factors.size(), () -> x.factor(0));
        Expect.answer("told of " + row, due, () -> Expect.told(x));
        if (whole.length > 1) {
            boolean prime = Math.abs(unit) == 1 && factors.size() == 1 && factors.get(0).times == 1;
            Expect.answer("prime of " + row, prime, () -> x.prime(0));
        }
    }

    private static int[] ints(long[] row) {
        int[] c = new int[row.length];
        for (int k = 0; k < c.length; k++) {
            c[k] = (int) row[k];
        }
        return c;
    }
}
