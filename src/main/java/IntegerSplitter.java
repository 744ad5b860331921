import java.util.Arrays;
import java.util.NoSuchElementException;

/**
 * Four registers with polynomials of whole coefficients, which are put together, divided, and taken
 * apart into factors that can't be taken apart any further; they are looked at modulo small primes too.
 */
public final class IntegerSplitter {
    private static final int REGISTERS = 4;
    private static final int PLACES = 8;
    private static final int LARGEST = 99999;
    private static final int FARTHEST = 9;
    private static final int LARGEST_PRIME = 13;

    private final long[][] registers;
    private final long[] result;
    private final long[] quotient;
    private final long[] rest;
    private final Splitter splitter;
    private final Factors told;
    private final Factors untold;

    public IntegerSplitter() {
        registers = new long[REGISTERS][PLACES];
        // a product of two registers has up to 15 places before its limits are looked at
        result = new long[2 * PLACES];
        quotient = new long[PLACES];
        rest = new long[PLACES];
        splitter = new Splitter();
        told = new Factors();
        untold = new Factors();
    }

    public int put(int r, int k, int c) throws IndexOutOfBoundsException, IllegalArgumentException {
        requireRegister(r);
        requirePlace(k);
        if (c < -LARGEST || c > LARGEST) {
            throw new IllegalArgumentException();
        }
        registers[r][k] = c;
        return Rows.degreeOf(registers[r]);
    }

    public int coefficient(int r, int k) throws IndexOutOfBoundsException {
        requireRegister(r);
        requirePlace(k);
        return (int) registers[r][k];
    }

    public int degree(int r) throws IndexOutOfBoundsException {
        requireRegister(r);
        return Rows.degreeOf(registers[r]);
    }

    public int add(int to, int a, int b, boolean minus)
            throws IndexOutOfBoundsException, IllegalStateException {
        requireRegister(to);
        requireRegister(a);
        requireRegister(b);
        Arrays.fill(result, 0);
        for (int k = 0; k < PLACES; k++) {
            result[k] = minus ? registers[a][k] - registers[b][k] : registers[a][k] + registers[b][k];
        }
        return keep(to, result);
    }

    public int multiply(int to, int a, int b) throws IndexOutOfBoundsException, IllegalStateException {
        requireRegister(to);
        requireRegister(a);
        requireRegister(b);
        Arrays.fill(result, 0);
        for (int i = 0; i < PLACES; i++) {
            for (int j = 0; j < PLACES; j++) {
                result[i + j] += registers[a][i] * registers[b][j];
            }
        }
        return keep(to, result);
    }

    public int derive(int to, int a) throws IndexOutOfBoundsException, IllegalStateException {
        requireRegister(to);
        requireRegister(a);
        Arrays.fill(result, 0);
        Rows.slopeInto(registers[a], result);
        return keep(to, result);
    }

    public int shift(int to, int a, int h)
            throws IndexOutOfBoundsException, IllegalArgumentException, IllegalStateException {
        requireRegister(to);
        requireRegister(a);
        requireNear(h);
        Arrays.fill(result, 0);
        for (int k = PLACES - 1; k >= 0; k--) {
            // Horner's rule with x + h in the place of x
            for (int j = PLACES - 1; j > 0; j--) {
                result[j] = result[j] * h + result[j - 1];
            }
            result[0] = result[0] * h + registers[a][k];
        }
        return keep(to, result);
    }

    public int divide(int to, int a, int b)
            throws IndexOutOfBoundsException, ArithmeticException, IllegalStateException {
        requireRegister(to);
        requireRegister(a);
        requireRegister(b);
        if (!Rows.findQuotient(registers[a], registers[b], quotient, rest)) {
            throw new ArithmeticException();
        }
        return keep(to, quotient);
    }

    public int common(int to, int a, int b) throws IndexOutOfBoundsException, IllegalStateException {
        requireRegister(to);
        requireRegister(a);
        requireRegister(b);
        return keep(to, splitter.divisor.find(registers[a], registers[b]));
    }

    public long value(int r, int x) throws IndexOutOfBoundsException, IllegalArgumentException {
        requireRegister(r);
        requireNear(x);
        long sum = 0;
        for (int k = PLACES - 1; k >= 0; k--) {
            sum = sum * x + registers[r][k];
        }
        return sum;
    }

    public int content(int r) throws IndexOutOfBoundsException {
        requireRegister(r);
        return (int) Rows.contentOf(registers[r]);
    }

    public int factor(int r) throws IndexOutOfBoundsException, ArithmeticException {
        requireRegister(r);
        if (Rows.degreeOf(registers[r]) < 0) {
            throw new ArithmeticException();
        }
        splitter.takeApart(registers[r], told);
        return told.count;
    }

    public int unit() {
        return (int) told.outside;
    }

    public int multiplicity(int i) throws NoSuchElementException {
        requireFactor(i);
        return told.times[i];
    }

    public int factorAt(int i, int k) throws NoSuchElementException {
        requireFactor(i);
        if (k == -1) {
            return Rows.degreeOf(told.rows[i]);
        }
        return k < 0 || k >= PLACES ? 0 : (int) told.rows[i][k];
    }

    public boolean take(int to, int i) throws IndexOutOfBoundsException, NoSuchElementException {
        requireRegister(to);
        requireFactor(i);
        if (!isWithinLimits(told.rows[i])) {
            return false;
        }
        Rows.copyInto(told.rows[i], registers[to]);
        return true;
    }

    public boolean prime(int r) throws IndexOutOfBoundsException {
        requireRegister(r);
        long[] row = registers[r];
        if (Rows.degreeOf(row) < 1) {
            return isPrimeNumber(row[0] < 0 ? -row[0] : row[0]);
        }
        if (Rows.contentOf(row) != 1) {
            return false;
        }
        // what is told of factors stays that of the latest call of factor
        splitter.takeApart(row, untold);
        return untold.count == 1 && untold.times[0] == 1;
    }

    public int modular(int r, int p) throws IndexOutOfBoundsException, IllegalArgumentException {
        requireRegister(r);
        requireModulus(p);
        return splitter.parts.countOf(registers[r], p);
    }

    public int roots(int r, int p) throws IndexOutOfBoundsException, IllegalArgumentException {
        requireRegister(r);
        requireModulus(p);
        int count = 0;
        for (int x = 0; x < p; x++) {
            long sum = 0;
            for (int k = PLACES - 1; k >= 0; k--) {
                sum = Residues.residue(sum * x + registers[r][k], p);
            }
            count += sum == 0 ? 1 : 0;
        }
        return count;
    }

    private static void requireRegister(int r) throws IndexOutOfBoundsException {
        if (r < 0 || r >= REGISTERS) {
            throw new IndexOutOfBoundsException();
        }
    }

    private static void requirePlace(int k) throws IndexOutOfBoundsException {
        if (k < 0 || k >= PLACES) {
            throw new IndexOutOfBoundsException();
        }
    }

    private static void requireNear(int x) throws IllegalArgumentException {
        if (x < -FARTHEST || x > FARTHEST) {
            throw new IllegalArgumentException();
        }
    }

    private static void requireModulus(int p) throws IllegalArgumentException {
        if (p > LARGEST_PRIME || !isPrimeNumber(p)) {
            throw new IllegalArgumentException();
        }
    }

    private void requireFactor(int i) throws NoSuchElementException {
        if (i < 0 || i >= told.count) {
            throw new NoSuchElementException();
        }
    }

    private int keep(int to, long[] row) throws IllegalStateException {
        if (!isWithinLimits(row)) {
            throw new IllegalStateException();
        }
        Rows.copyInto(row, registers[to]);
        return Rows.degreeOf(registers[to]);
    }

    private static boolean isWithinLimits(long[] row) {
        for (int k = 0; k < row.length; k++) {
            long most = k < PLACES ? LARGEST : 0;
            if (row[k] < -most || row[k] > most) {
                return false;
            }
        }
        return true;
    }

    private static boolean isPrimeNumber(long n) {
        for (long d = 2; d * d <= n; d++) {
            if (n % d == 0) {
                return false;
            }
        }
        return n > 1;
    }

    /** What is told of a polynomial that was taken apart: its factors in their order, and its unit. */
    private static final class Factors {
        private static final int MOST = PLACES - 1;

        final long[][] rows = new long[MOST][PLACES];
        final int[] times = new int[MOST];
        int count = 0;
        long outside = 0;

        void begin(long number) {
            count = 0;
            outside = number;
        }

        void insert(long[] row, int often) {
            if (count >= MOST) {
                return;
            }
            int i = count;
            while (i > 0 && standsBefore(row, rows[i - 1])) {
                Rows.copyInto(rows[i - 1], rows[i]);
                times[i] = times[i - 1];
                i--;
            }
            Rows.copyInto(row, rows[i]);
            times[i] = often;
            count++;
        }

        private static boolean standsBefore(long[] a, long[] b) {
            int more = Rows.degreeOf(b) - Rows.degreeOf(a);
            for (int k = PLACES - 1; k >= 0 && more == 0; k--) {
                more = Long.compare(b[k], a[k]);
            }
            return more > 0;
        }
    }

    /** Polynomials of whole coefficients as rows: place k of a row has c(k). */
    private static final class Rows {
        // By Mignotte's bound no divisor of a register, nor one of its derivative, has a coefficient
        // beyond 35 * 7 * 99999 * sqrt(8); what is greater divides neither and might leave a long.
        private static final long WIDEST = 100_000_000L;
        private static final int STEPS = 100;

        static int degreeOf(long[] row) {
            for (int k = row.length - 1; k >= 0; k--) {
                if (row[k] != 0) {
                    return k;
                }
            }
            return -1;
        }

        static long leadingOf(long[] row) {
            int top = degreeOf(row);
            return top < 0 ? 0 : row[top];
        }

        static void copyInto(long[] from, long[] to) {
            System.arraycopy(from, 0, to, 0, PLACES);
        }

        static void slopeInto(long[] row, long[] slope) {
            for (int k = 1; k < PLACES; k++) {
                slope[k - 1] = k * row[k];
            }
            slope[PLACES - 1] = 0;
        }

        static long greatestDivisor(long a, long b) {
            long high = a < 0 ? -a : a;
            long low = b < 0 ? -b : b;
            for (int step = 0; step < STEPS && low != 0; step++) {
                long left = high % low;
                high = low;
                low = left;
            }
            return high;
        }

        static long contentOf(long[] row) {
            long number = 0;
            for (int k = 0; k < row.length; k++) {
                number = greatestDivisor(number, row[k]);
            }
            return number;
        }

        /** Leaves the row with content 1 and a positive leading coefficient; answers what was taken out. */
        static long makePrimitive(long[] row) {
            long number = contentOf(row);
            if (number == 0) {
                return 0;
            }
            if (leadingOf(row) < 0) {
                number = -number;
            }
            for (int k = 0; k < row.length; k++) {
                row[k] /= number;
            }
            return number;
        }

        /** Whether row b, which isn't 0, divides row a; then the quotient is in its row, 0 in rest. */
        static boolean findQuotient(long[] a, long[] b, long[] quotient, long[] rest) {
            int low = degreeOf(b);
            if (low < 0 || isWide(b)) {
                return false;
            }
            Arrays.fill(quotient, 0);
            copyInto(a, rest);
            for (int k = PLACES - 1 - low; k >= 0; k--) {
                long times = rest[k + low] / b[low];
                if (times < -WIDEST || times > WIDEST) {
                    return false;
                }
                for (int j = 0; j <= low; j++) {
                    rest[k + j] -= times * b[j];
                }
                if (rest[k + low] != 0) {
                    return false;
                }
                quotient[k] = times;
            }
            return degreeOf(rest) < 0;
        }

        private static boolean isWide(long[] row) {
            for (int k = 0; k < row.length; k++) {
                if (row[k] < -WIDEST || row[k] > WIDEST) {
                    return true;
                }
            }
            return false;
        }
    }

    /** Numbers and rows modulo m; p stands where m must be a prime. All stay below 2^31, products in a long. */
    private static final class Residues {
        static long residue(long a, long m) {
            if (m <= 0) {
                return 0;
            }
            long left = a % m;
            return left < 0 ? left + m : left;
        }

        /** The remainder of least amount. */
        static long nearest(long a, long m) {
            long left = residue(a, m);
            return left > m / 2 ? left - m : left;
        }

        /** By Fermat: a to the power p - 2. */
        static long inverseOf(long a, long p) {
            if (p <= 0) {
                return 0;
            }
            long power = a % p;
            long inverse = 1;
            for (long e = p - 2; e > 0; e >>= 1) {
                if ((e & 1) == 1) {
                    inverse = inverse * power % p;
                }
                power = power * power % p;
            }
            return inverse;
        }

        static void reduceInto(long[] from, long[] to, long m) {
            for (int k = 0; k < PLACES; k++) {
                to[k] = residue(from[k], m);
            }
        }

        static void makeMonic(long[] row, long p) {
            int top = Rows.degreeOf(row);
            long inverse = top < 0 ? 0 : inverseOf(row[top], p);
            for (int k = 0; k < PLACES; k++) {
                row[k] = residue(row[k] * inverse, p);
            }
        }

        /** Divides row by the row below, which isn't 0: the remainder stays in row. */
        static void divideOut(long[] row, long[] below, long[] quotient, long p) {
            int low = Rows.degreeOf(below);
            Arrays.fill(quotient, 0);
            if (low < 0) {
                return;
            }
            long inverse = inverseOf(below[low], p);
            for (int k = Rows.degreeOf(row) - low; k >= 0; k--) {
                long times = residue(row[k + low] * inverse, p);
                for (int j = 0; j <= low; j++) {
                    row[k + j] = residue(row[k + j] - times * below[j], p);
                }
                quotient[k] = times;
            }
        }

        /** That of the rows a and b which has in the end their greatest common divisor, made monic. */
        static long[] commonOf(long[] a, long[] b, long[] scratch, long p) {
            long[] high = a;
            long[] low = b;
            for (int step = 0; step < 2 * PLACES && Rows.degreeOf(low) >= 0; step++) {
                divideOut(high, low, scratch, p);
                long[] left = high;
                high = low;
                low = left;
            }
            makeMonic(high, p);
            return high;
        }

        /** Row becomes its product with row by; the degrees together stay below the places, m below 2^29. */
        static void multiplyBy(long[] row, long[] by, long m) {
            int high = Rows.degreeOf(by);
            for (int k = PLACES - 1; k >= 0; k--) {
                long sum = 0;
                for (int j = k < high ? k : high; j >= 0; j--) {
                    sum += row[k - j] * by[j];
                }
                row[k] = residue(sum, m);
            }
        }

        /** Row becomes its product with x, less what the monic row below, of degree low, divides. */
        static void timesX(long[] row, long[] below, int low, long p) {
            if (low < 1 || low >= PLACES) {
                return;
            }
            long top = row[low - 1];
            for (int k = low - 1; k > 0; k--) {
                row[k] = residue(row[k - 1] - top * below[k], p);
            }
            row[0] = residue(-top * below[0], p);
        }

        /** The product of a and b, less what the monic row below divides; b has a lesser degree than it. */
        static void productInto(long[] a, long[] b, long[] below, long[] product, long p) {
            Arrays.fill(product, 0);
            int low = Rows.degreeOf(below);
            for (int k = Rows.degreeOf(a); k >= 0; k--) {
                timesX(product, below, low, p);
                for (int j = 0; j < low; j++) {
                    product[j] = residue(product[j] + a[k] * b[j], p);
                }
            }
        }
    }

    /** Finds the greatest common divisor by way of that modulo a large prime. */
    private static final class CommonDivisor {
        // Where the degree is too great modulo a prime, that prime divides a resultant that is below
        // 10^77 and not 0: these nine, with a product above 10^83, can't all do so.
        private static final long[] LARGE_PRIMES = {
            2147483647L, 2147483629L, 2147483587L, 2147483579L, 2147483563L,
            2147483549L, 2147483543L, 2147483497L, 2147483489L};

        private final long[] first = new long[PLACES];
        private final long[] second = new long[PLACES];
        private final long[] found = new long[PLACES];
        private final long[] high = new long[PLACES];
        private final long[] low = new long[PLACES];
        private final long[] scratch = new long[PLACES];

        /** The row that is answered is written anew by the next call. */
        long[] find(long[] a, long[] b) {
            Rows.copyInto(a, first);
            Rows.copyInto(b, second);
            long number = Rows.greatestDivisor(Rows.makePrimitive(first), Rows.makePrimitive(second));
            if (Rows.degreeOf(second) < 0) {
                Rows.copyInto(first, found);
            } else if (Rows.degreeOf(first) < 0) {
                Rows.copyInto(second, found);
            } else {
                findPrimitive();
            }
            for (int k = 0; k < PLACES; k++) {
                found[k] *= number;
            }
            return found;
        }

        private void findPrimitive() {
            long lead = Rows.greatestDivisor(Rows.leadingOf(first), Rows.leadingOf(second));
            for (int i = 0; i < LARGE_PRIMES.length; i++) {
                long p = LARGE_PRIMES[i];
                Residues.reduceInto(first, high, p);
                Residues.reduceInto(second, low, p);
                long[] row = Residues.commonOf(high, low, scratch, p);
                for (int k = 0; k < PLACES; k++) {
                    found[k] = Residues.nearest(row[k] * lead, p);
                }
                Rows.makePrimitive(found);
                // the degree is never too small, so what divides both is the greatest
                if (Rows.findQuotient(first, found, high, low) && Rows.findQuotient(second, found, high, low)) {
                    return;
                }
            }
        }
    }

    /** Berlekamp's way to count, and to find, what divides a polynomial modulo a small prime. */
    private static final class ModularParts {
        final long[][] rows = new long[PLACES][PLACES];
        int count = 0;

        private final long[][] matrix = new long[PLACES][PLACES];
        private final long[][] kernel = new long[PLACES][PLACES];
        private final int[] pivot = new int[PLACES];
        private final long[] power = new long[PLACES];
        private final long[] part = new long[PLACES];
        private final long[] high = new long[PLACES];
        private final long[] low = new long[PLACES];
        private final long[] scratch = new long[PLACES];

        /** How many monic polynomials that can't be taken apart divide the row modulo p; -1 when it is 0. */
        int countOf(long[] row, long p) {
            Residues.reduceInto(row, part, p);
            int degree = Rows.degreeOf(part);
            if (degree < 1) {
                return degree;
            }
            Residues.makeMonic(part, p);
            fillMatrix(degree, p);
            return fillKernel(degree, p);
        }

        /** Finds them for a row that no square divides modulo p. */
        void find(long[] row, long p) {
            int wanted = countOf(row, p);
            Rows.copyInto(part, rows[0]);
            count = 1;
            for (int i = 1; i < wanted && count < wanted; i++) {
                for (int s = 0; s < p && count < wanted; s++) {
                    splitAll(kernel[i], s, p);
                }
            }
        }

        /** Row i becomes x to the power p i, less x to the power i, modulo the part. */
        private void fillMatrix(int degree, long p) {
            Arrays.fill(power, 0);
            power[0] = 1;
            for (int i = 0; i < degree; i++) {
                Rows.copyInto(power, matrix[i]);
                matrix[i][i] = Residues.residue(matrix[i][i] - 1, p);
                for (int e = 0; e < p; e++) {
                    Residues.timesX(power, part, degree, p);
                }
            }
        }

        /**
         * The rows v whose power p is v again modulo the part. They leave a number modulo each power of
         * a simple part, any number for each: so there are as many in a basis as there are simple parts,
         * also where some stand there more than once.
         */
        private int fillKernel(int degree, long p) {
            int found = 0;
            Arrays.fill(pivot, -1);
            for (int k = 0; k < degree; k++) {
                int column = freeColumn(k, degree);
                if (column < 0) {
                    fillKernelRow(found, k, degree);
                    found++;
                } else {
                    clearRow(k, column, degree, p);
                    pivot[column] = k;
                }
            }
            return found;
        }

        private int freeColumn(int k, int degree) {
            for (int j = 0; j < degree; j++) {
                if (matrix[k][j] != 0 && pivot[j] < 0) {
                    return j;
                }
            }
            return -1;
        }

        private void fillKernelRow(int found, int k, int degree) {
            Arrays.fill(kernel[found], 0);
            kernel[found][k] = 1;
            for (int j = 0; j < degree; j++) {
                if (pivot[j] >= 0) {
                    kernel[found][pivot[j]] = matrix[k][j];
                }
            }
        }

        /** Adds multiples of the column to the others until row k has only -1 in that column. */
        private void clearRow(int k, int column, int degree, long p) {
            long scale = Residues.residue(-Residues.inverseOf(matrix[k][column], p), p);
            for (int i = k; i < degree; i++) {
                matrix[i][column] = Residues.residue(matrix[i][column] * scale, p);
            }
            for (int j = 0; j < degree; j++) {
                long times = matrix[k][j];
                if (j != column && times != 0) {
                    for (int i = k; i < degree; i++) {
                        matrix[i][j] = Residues.residue(matrix[i][j] + times * matrix[i][column], p);
                    }
                }
            }
        }

        /** Splits each part into what divides row v less s, and what doesn't. */
        private void splitAll(long[] v, long s, long p) {
            int before = count;
            for (int i = 0; i < before && count < PLACES; i++) {
                if (Rows.degreeOf(rows[i]) < 2) {
                    continue;
                }
                Rows.copyInto(rows[i], high);
                Rows.copyInto(v, low);
                low[0] = Residues.residue(low[0] - s, p);
                long[] divisor = Residues.commonOf(high, low, scratch, p);
                int degree = Rows.degreeOf(divisor);
                if (degree > 0 && degree < Rows.degreeOf(rows[i])) {
                    Residues.divideOut(rows[i], divisor, rows[count], p);
                    Rows.copyInto(divisor, rows[i]);
                    count++;
                }
            }
        }
    }

    /** Hensel's way from parts modulo a prime to parts modulo a power of it. */
    private static final class Lifting {
        // A divisor of at most degree 3, made to have the polynomial's leading coefficient, has no
        // coefficient beyond 3 * 99999 * sqrt(8): modulo twice that it is seen whole.
        private static final long ENOUGH = 1_700_000L;
        private static final int STEPS = 30;

        final long[][] rows = new long[PLACES][PLACES];
        long modulus = 1;

        private final long[][] inverses = new long[PLACES][PLACES];
        private final long[] product = new long[PLACES];
        private final long[] power = new long[PLACES];
        private final long[] scratch = new long[PLACES];

        /** The parts are monic, no two have a common divisor, and with the leading number they make the row. */
        void lift(long[] row, ModularParts parts, long p) {
            for (int i = 0; i < parts.count; i++) {
                Rows.copyInto(parts.rows[i], rows[i]);
                multiplyOthers(i, Rows.leadingOf(row), parts, p);
                fillInverse(parts.rows[i], inverses[i], p);
            }
            modulus = p;
            for (int step = 0; step < STEPS && modulus < ENOUGH; step++) {
                findError(row, parts.count, modulus * p);
                for (int i = 0; i < parts.count; i++) {
                    Residues.productInto(product, inverses[i], parts.rows[i], scratch, p);
                    for (int k = 0; k < PLACES; k++) {
                        rows[i][k] += modulus * scratch[k];
                    }
                }
                modulus *= p;
            }
        }

        /** The row power becomes the product of the leading number and all other parts, modulo part i. */
        private void multiplyOthers(int i, long lead, ModularParts parts, long p) {
            Arrays.fill(power, 0);
            power[0] = Residues.residue(lead, p);
            for (int j = 0; j < parts.count; j++) {
                if (j != i) {
                    Residues.productInto(parts.rows[j], power, parts.rows[i], scratch, p);
                    Rows.copyInto(scratch, power);
                }
            }
        }

        /** A part of degree d makes a field of p^d elements: what is raised to p^d - 2 is the inverse. */
        private void fillInverse(long[] part, long[] inverse, long p) {
            long elements = 1;
            for (int k = 0; k < Rows.degreeOf(part); k++) {
                elements *= p;
            }
            Arrays.fill(inverse, 0);
            inverse[0] = 1;
            for (long e = elements - 2; e > 0; e >>= 1) {
                if ((e & 1) == 1) {
                    Residues.productInto(power, inverse, part, scratch, p);
                    Rows.copyInto(scratch, inverse);
                }
                Residues.productInto(power, power, part, scratch, p);
                Rows.copyInto(scratch, power);
            }
        }

        /** What lacks the row to be the product modulo the next power, in counts of the present one. */
        private void findError(long[] row, int count, long next) {
            Arrays.fill(product, 0);
            product[0] = Rows.leadingOf(row);
            for (int i = 0; i < count; i++) {
                Residues.multiplyBy(product, rows[i], next);
            }
            for (int k = 0; k < PLACES; k++) {
                long lack = Residues.residue(row[k] - product[k], next);
                product[k] = modulus <= 0 ? 0 : lack / modulus;
            }
        }
    }

    /** Takes polynomials apart by Zassenhaus's way. */
    private static final class Splitter {
        // A prime that won't do divides the leading number or the discriminant, whose product is below
        // 10^77 and not 0: these, with a product above 10^81, can't all do so.
        private static final int[] SMALL_PRIMES = {
            2, 3, 5, 7, 11, 13, 17, 19, 23, 29, 31, 37, 41, 43, 47, 53, 59, 61, 67, 71, 73, 79, 83, 89, 97,
            101, 103, 107, 109, 113, 127, 131, 137, 139, 149, 151, 157, 163, 167, 173, 179, 181, 191, 193,
            197, 199};

        final CommonDivisor divisor = new CommonDivisor();
        final ModularParts parts = new ModularParts();

        private final Lifting lifting = new Lifting();
        private final long[] whole = new long[PLACES];
        private final long[] open = new long[PLACES];
        private final long[] slope = new long[PLACES];
        private final long[] candidate = new long[PLACES];
        private final long[] quotient = new long[PLACES];
        private final long[] rest = new long[PLACES];

        void takeApart(long[] row, Factors factors) {
            Rows.copyInto(row, whole);
            factors.begin(Rows.makePrimitive(whole));
            if (Rows.degreeOf(whole) < 1) {
                return;
            }
            // without what divides the derivative too, each factor stands there once
            Rows.slopeInto(whole, slope);
            Rows.findQuotient(whole, divisor.find(whole, slope), open, rest);
            long p = goodPrime();
            parts.find(open, p);
            if (parts.count > 1) {
                lifting.lift(open, parts, p);
            }
            combine(factors);
        }

        /** The first prime modulo which the open row keeps its degree and no square divides it. */
        private long goodPrime() {
            for (int i = 0; i < SMALL_PRIMES.length; i++) {
                long p = SMALL_PRIMES[i];
                Rows.slopeInto(open, slope);
                Residues.reduceInto(slope, slope, p);
                Residues.reduceInto(open, rest, p);
                if (Rows.degreeOf(rest) == Rows.degreeOf(open)
                        && Rows.degreeOf(Residues.commonOf(rest, slope, quotient, p)) == 0) {
                    return p;
                }
            }
            return SMALL_PRIMES[0];
        }

        /**
         * A set of parts comes after all sets inside it, so what it makes can't be taken apart if it
         * divides; and of two divisors the one of the lesser degree is enough to look for.
         */
        private void combine(Factors factors) {
            int all = 1 << parts.count;
            int used = 0;
            for (int set = 1; set < all; set++) {
                if ((set & used) == 0 && 2 * degreeOfSet(set) <= Rows.degreeOf(open) && splitOff(set)) {
                    factors.insert(candidate, timesInWhole(candidate));
                    used |= set;
                }
            }
            factors.insert(open, timesInWhole(open));
        }

        private int degreeOfSet(int set) {
            int degree = 0;
            for (int i = 0; i < parts.count; i++) {
                if ((set >> i & 1) == 1) {
                    degree += Rows.degreeOf(parts.rows[i]);
                }
            }
            return degree;
        }

        /** Whether the lifted parts of the set make a divisor of the open row, which it is then taken out of. */
        private boolean splitOff(int set) {
            Arrays.fill(candidate, 0);
            candidate[0] = Rows.leadingOf(open);
            for (int i = 0; i < parts.count; i++) {
                if ((set >> i & 1) == 1) {
                    Residues.multiplyBy(candidate, lifting.rows[i], lifting.modulus);
                }
            }
            for (int k = 0; k < PLACES; k++) {
                candidate[k] = Residues.nearest(candidate[k], lifting.modulus);
            }
            Rows.makePrimitive(candidate);
            if (!Rows.findQuotient(open, candidate, quotient, rest)) {
                return false;
            }
            Rows.copyInto(quotient, open);
            return true;
        }

        private int timesInWhole(long[] row) {
            Rows.copyInto(whole, slope);
            int times = 0;
            while (times < PLACES && Rows.findQuotient(slope, row, quotient, rest)) {
                Rows.copyInto(quotient, slope);
                times++;
            }
            return times;
        }
    }
}
