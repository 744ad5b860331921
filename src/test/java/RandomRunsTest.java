import java.math.BigInteger;
import java.util.Arrays;
import java.util.Random;

/**
 * Promises 2 to 12 and 17 in runs of 400 to 500 calls with right and wrong inputs, against a plain model in numbers
 * of any length; after each call what it writes is compared, at the end all. What factor tells is multiplied
 * together again.
 */
public final class RandomRunsTest {
    private static final BigInteger LIMIT = BigInteger.valueOf(99999);
    private static final BigInteger[] ZERO = {};
    // a step takes at most 92 calls with what is read after it, the end of a run 36: no run goes beyond 512
    private static final int ENOUGH = 380;

    private final Random random;
    private final IntegerSplitter x = new IntegerSplitter();
    private final BigInteger[][] model = {ZERO, ZERO, ZERO, ZERO};

    private int calls = 0;

    private RandomRunsTest(long seed) {
        random = new Random(seed);
    }

    public static void main(String[] args) {
        for (int seed = 1; seed <= 1200; seed++) {
            RandomRunsTest run = new RandomRunsTest(seed);
            run.begin();
            while (run.calls < ENOUGH) {
                int to = run.step();
                if (!isWrong(to)) {
                    run.compareRegister("run " + seed + ", call " + run.calls, to);
                }
            }
            for (int r = 0; r < 4; r++) {
                run.compareRegister("the end of run " + seed, r);
            }
        }
        Expect.end();
    }

    private IntegerSplitter used() {
        calls++;
        return x;
    }

    /** Some polynomials to begin with, which a run of this length would hardly put together. */
    private void begin() {
        for (int r = 0; r < 3; r++) {
            BigInteger[] row = padded(ZERO, 1 + random.nextInt(6));
            for (int k = 0; k < row.length; k++) {
                int c = random.nextInt(9) - 4;
                row[k] = BigInteger.valueOf(c);
                used().put(r, k, c);
            }
            model[r] = trimmed(row);
        }
    }

    private int register() {
        return random.nextInt(60) == 0 ? random.nextBoolean() ? -1 : 4 : random.nextInt(4);
    }

    /** Answers the register that the call names to be written, which may be none. */
    private int step() {
        int to = register();
        int a = register();
        int b = register();
        boolean wrong = isWrong(to) || isWrong(a);
        switch (random.nextInt(12)) {
            case 0, 1, 2, 3 -> put(to);
            case 4 -> {
                boolean minus = random.nextBoolean();
                String due = wrong || isWrong(b) ? Expect.INDEX : keep(to, sum(model[a], model[b], minus));
                Expect.answer("add", due, () -> used().add(to, a, b, minus));
            }
            case 5, 6 -> {
                String due = wrong || isWrong(b) ? Expect.INDEX : keep(to, product(model[a], model[b]));
                Expect.answer("multiply", due, () -> used().multiply(to, a, b));
            }
            case 7 -> {
                String due = wrong ? Expect.INDEX : keep(to, derivative(model[a]));
                Expect.answer("derive", due, () -> used().derive(to, a));
            }
            case 8 -> {
                int h = random.nextInt(23) - 11;
                String due = wrong ? Expect.INDEX : Math.abs(h) > 9 ? Expect.ARGUMENT : keep(to, moved(model[a], h));
                Expect.answer("shift", due, () -> used().shift(to, a, h));
            }
            case 9 -> {
                String due = wrong || isWrong(b) ? Expect.INDEX : keepQuotient(to, model[a], model[b]);
                Expect.answer("divide", due, () -> used().divide(to, a, b));
            }
            case 10 -> {
                String due = wrong || isWrong(b) ? Expect.INDEX : keep(to, common(model[a], model[b]));
                Expect.answer("common", due, () -> used().common(to, a, b));
            }
            default -> look(a, to);
        }
        return to;
    }

    private static boolean isWrong(int r) {
        return r < 0 || r > 3;
    }

    private void put(int r) {
        int k = random.nextInt(random.nextInt(8) == 0 ? 10 : 4) - (random.nextInt(40) == 0 ? 1 : 0);
        int c = random.nextInt(20) == 0 ? random.nextInt(220001) - 110000 : random.nextInt(9) - 4;
        String due;
        if (isWrong(r) || k < 0 || k > 7) {
            due = Expect.INDEX;
        } else if (Math.abs(c) > 99999) {
            due = Expect.ARGUMENT;
        } else {
            BigInteger[] row = padded(model[r], 8);
            row[k] = BigInteger.valueOf(c);
            due = keep(r, trimmed(row));
        }
        Expect.answer("put", due, () -> used().put(r, k, c));
    }

    private void look(int r, int to) {
        int at = random.nextInt(23) - 11;
        if (isWrong(r)) {
            Expect.answer("value", Expect.INDEX, () -> used().value(r, at));
            Expect.answer("content", Expect.INDEX, () -> used().content(r));
            Expect.answer("factor", Expect.INDEX, () -> used().factor(r));
            return;
        }
        Expect.answer("value", Math.abs(at) > 9 ? Expect.ARGUMENT : valueOf(model[r], at), () -> used().value(r, at));
        Expect.answer("content", content(model[r]), () -> used().content(r));
        if (model[r].length == 0) {
            Expect.answer("factor", Expect.ARITHMETIC, () -> used().factor(r));
            return;
        }
        int count = used().factor(r);
        BigInteger[] whole = {BigInteger.valueOf(used().unit())};
        for (int i = 0; i < count; i++) {
            for (int times = 0; times < used().multiplicity(i); times++) {
                whole = product(whole, factor(i));
            }
        }
        BigInteger[] again = whole;
        Expect.answer("the product of the factors", Arrays.toString(model[r]), () -> Arrays.toString(again));
        int taken = random.nextInt(8);
        if (isWrong(to) || taken >= count) {
            Expect.answer("take", isWrong(to) ? Expect.INDEX : Expect.ELEMENT, () -> used().take(to, taken));
        } else {
            boolean due = !keep(to, factor(taken)).equals(Expect.STATE);
            Expect.answer("take", due, () -> used().take(to, taken));
        }
    }

    private BigInteger[] factor(int i) {
        BigInteger[] row = new BigInteger[8];
        for (int k = 0; k < 8; k++) {
            row[k] = BigInteger.valueOf(used().factorAt(i, k));
        }
        return trimmed(row);
    }

    private String keep(int to, BigInteger[] row) {
        for (BigInteger c : row) {
            if (c.abs().compareTo(LIMIT) > 0) {
                return Expect.STATE;
            }
        }
        if (row.length > 8) {
            return Expect.STATE;
        }
        model[to] = row;
        return String.valueOf(row.length - 1);
    }

    private String keepQuotient(int to, BigInteger[] a, BigInteger[] b) {
        BigInteger[] quotient = b.length == 0 ? null : quotient(a, b);
        return quotient == null ? Expect.ARITHMETIC : keep(to, quotient);
    }

    private void compareRegister(String where, int r) {
        calls += 8;
        Expect.answer(where + ": register " + r, Arrays.toString(model[r]), () -> Expect.register(x, r));
        Expect.answer(where + ": degree " + r, model[r].length - 1, () -> used().degree(r));
    }

    private static BigInteger[] padded(BigInteger[] row, int length) {
        BigInteger[] longer = new BigInteger[Math.max(length, row.length)];
        Arrays.fill(longer, BigInteger.ZERO);
        System.arraycopy(row, 0, longer, 0, row.length);
        return longer;
    }

    private static BigInteger[] trimmed(BigInteger[] row) {
        int length = row.length;
        while (length > 0 && row[length - 1].signum() == 0) {
            length--;
        }
        return Arrays.copyOf(row, length);
    }

    private static BigInteger[] sum(BigInteger[] a, BigInteger[] b, boolean minus) {
        BigInteger[] row = padded(a, b.length);
        for (int k = 0; k < b.length; k++) {
            row[k] = minus ? row[k].subtract(b[k]) : row[k].add(b[k]);
        }
        return trimmed(row);
    }

    private static BigInteger[] product(BigInteger[] a, BigInteger[] b) {
        BigInteger[] row = padded(ZERO, a.length + b.length);
        for (int i = 0; i < a.length; i++) {
            for (int j = 0; j < b.length; j++) {
                row[i + j] = row[i + j].add(a[i].multiply(b[j]));
            }
        }
        return trimmed(row);
    }

    private static BigInteger[] derivative(BigInteger[] a) {
        BigInteger[] row = padded(ZERO, a.length);
        for (int k = 1; k < a.length; k++) {
            row[k - 1] = a[k].multiply(BigInteger.valueOf(k));
        }
        return trimmed(row);
    }

    /** The sum of the powers of x + h, each made by multiplying. */
    private static BigInteger[] moved(BigInteger[] a, int h) {
        BigInteger[] step = {BigInteger.valueOf(h), BigInteger.ONE};
        BigInteger[] power = {BigInteger.ONE};
        BigInteger[] row = ZERO;
        for (BigInteger c : a) {
            row = sum(row, product(power, trimmed(new BigInteger[] {c})), false);
            power = product(power, step);
        }
        return row;
    }

    private static BigInteger valueOf(BigInteger[] a, int at) {
        BigInteger sum = BigInteger.ZERO;
        for (int k = 0; k < a.length; k++) {
            sum = sum.add(a[k].multiply(BigInteger.valueOf(at).pow(k)));
        }
        return sum;
    }

    private static BigInteger content(BigInteger[] a) {
        BigInteger number = BigInteger.ZERO;
        for (BigInteger c : a) {
            number = number.gcd(c);
        }
        return number;
    }

    private static BigInteger[] quotient(BigInteger[] a, BigInteger[] b) {
        BigInteger[] rest = a;
        BigInteger[] quotient = padded(ZERO, a.length);
        while (rest.length >= b.length) {
            BigInteger[] parts = rest[rest.length - 1].divideAndRemainder(b[b.length - 1]);
            if (parts[1].signum() != 0) {
                return null;
            }
            BigInteger[] term = padded(ZERO, rest.length - b.length + 1);
            term[term.length - 1] = parts[0];
            quotient = sum(quotient, term, false);
            rest = sum(rest, product(term, b), true);
        }
        return rest.length == 0 ? trimmed(quotient) : null;
    }

    /** Euclid's way with remainders that are multiplied until they are whole. */
    private static BigInteger[] common(BigInteger[] a, BigInteger[] b) {
        BigInteger number = content(a).gcd(content(b));
        BigInteger[] high = primitive(a);
        BigInteger[] low = primitive(b);
        while (low.length > 0) {
            BigInteger[] rest = high;
            while (rest.length >= low.length) {
                BigInteger[] term = padded(ZERO, rest.length - low.length + 1);
                term[term.length - 1] = rest[rest.length - 1];
                BigInteger[] lead = {low[low.length - 1]};
                rest = sum(product(rest, lead), product(term, low), true);
            }
            high = low;
            low = primitive(rest);
        }
        return product(high, trimmed(new BigInteger[] {number}));
    }

    private static BigInteger[] primitive(BigInteger[] a) {
        BigInteger number = content(a);
        BigInteger[] row = a.clone();
        for (int k = 0; k < row.length; k++) {
            row[k] = row[k].divide(a[a.length - 1].signum() < 0 ? number.negate() : number);
        }
        return row;
    }
}
