import java.math.BigInteger;
import java.util.Arrays;
import java.util.Comparator;

/** The document's words done the slow way, with whole numbers of any size: what the class is compared with. */
final class Slow {
    /** "by degrees, then by the coefficient at the highest power where they differ". */
    static final Comparator<BigInteger[]> ORDER = (a, b) -> {
        int before = Integer.compare(a.length, b.length);
        for (int k = a.length - 1; k >= 0 && before == 0; k--) {
            before = a[k].compareTo(b[k]);
        }
        return before;
    };

    private Slow() {
    }

    static BigInteger[] row(int... coefficients) {
        BigInteger[] row = new BigInteger[coefficients.length];
        for (int k = 0; k < row.length; k++) {
            row[k] = BigInteger.valueOf(coefficients[k]);
        }
        return trim(row);
    }

    static BigInteger[] trim(BigInteger[] row) {
        int length = row.length;
        while (length > 0 && row[length - 1].signum() == 0) {
            length--;
        }
        return Arrays.copyOf(row, length);
    }

    /** Whether it isn't too great. */
    static boolean fits(BigInteger[] row) {
        for (BigInteger v : row) {
            if (v.abs().compareTo(BigInteger.valueOf(9999)) > 0) {
                return false;
            }
        }
        return row.length <= 11;
    }

    static int[] ints(BigInteger[] row) {
        int[] result = new int[row.length];
        for (int k = 0; k < row.length; k++) {
            result[k] = row[k].intValueExact();
        }
        return result;
    }

    static BigInteger[] product(BigInteger[] a, BigInteger[] b) {
        BigInteger[] row = new BigInteger[a.length + b.length + 1];
        Arrays.fill(row, BigInteger.ZERO);
        for (int i = 0; i < a.length; i++) {
            for (int j = 0; j < b.length; j++) {
                row[i + j] = row[i + j].add(a[i].multiply(b[j]));
            }
        }
        return trim(row);
    }

    /** a through b, or null if it has no whole coefficients. */
    static BigInteger[] quotient(BigInteger[] a, BigInteger[] b) {
        BigInteger[] rest = a.clone();
        BigInteger[] row = new BigInteger[Math.max(0, a.length - b.length + 1)];
        for (int k = row.length - 1; k >= 0; k--) {
            BigInteger[] parts = rest[k + b.length - 1].divideAndRemainder(b[b.length - 1]);
            if (parts[1].signum() != 0) {
                return null;
            }
            row[k] = parts[0];
            for (int j = 0; j < b.length; j++) {
                rest[k + j] = rest[k + j].subtract(parts[0].multiply(b[j]));
            }
        }
        return trim(rest).length == 0 ? trim(row) : null;
    }

    static BigInteger content(BigInteger[] a) {
        BigInteger measure = BigInteger.ZERO;
        for (BigInteger v : a) {
            measure = measure.gcd(v);
        }
        return a.length > 0 && a[a.length - 1].signum() < 0 ? measure.negate() : measure;
    }

    static BigInteger[] primitive(BigInteger[] a) {
        BigInteger[] row = a.clone();
        BigInteger measure = content(a);
        for (int k = 0; k < row.length; k++) {
            row[k] = row[k].divide(measure);
        }
        return row;
    }

    /** By pseudo-remainders of primitive parts. */
    static BigInteger[] gcd(BigInteger[] a, BigInteger[] b) {
        BigInteger[] u = primitive(a);
        BigInteger[] v = primitive(b);
        while (v.length > 0) {
            BigInteger[] rest = u;
            while (rest.length >= v.length) {
                rest = stepDown(rest, v);
            }
            u = v;
            v = primitive(rest);
        }
        return u;
    }

    private static BigInteger[] stepDown(BigInteger[] a, BigInteger[] b) {
        BigInteger[] row = new BigInteger[a.length];
        for (int k = 0; k < a.length; k++) {
            row[k] = a[k].multiply(b[b.length - 1]);
        }
        for (int k = 0; k < b.length; k++) {
            int place = k + a.length - b.length;
            row[place] = row[place].subtract(b[k].multiply(a[a.length - 1]));
        }
        return trim(row);
    }

    static BigInteger[] derived(BigInteger[] a) {
        BigInteger[] row = new BigInteger[Math.max(0, a.length - 1)];
        for (int k = 1; k < a.length; k++) {
            row[k - 1] = a[k].multiply(BigInteger.valueOf(k));
        }
        return trim(row);
    }

    static boolean squareFree(BigInteger[] a) {
        return a.length > 0 && gcd(a, derived(a)).length == 1;
    }

    static int value(BigInteger[] a, int x, int m) {
        BigInteger sum = BigInteger.ZERO;
        for (int k = 0; k < a.length; k++) {
            sum = sum.add(a[k].multiply(BigInteger.valueOf(x).pow(k)));
        }
        return sum.mod(BigInteger.valueOf(m)).intValue();
    }

    static boolean isRoot(BigInteger[] a, int up, int down) {
        BigInteger sum = BigInteger.ZERO;
        for (int k = 0; k < a.length; k++) {
            BigInteger ups = BigInteger.valueOf(up).pow(k);
            sum = sum.add(a[k].multiply(ups).multiply(BigInteger.valueOf(down).pow(a.length - 1 - k)));
        }
        return sum.signum() == 0;
    }

    /** Divides by every monic row modulo the prime, the lower degrees first: what divides has no divisor. */
    static int parts(BigInteger[] a, int prime) {
        int[] rest = new int[a.length];
        for (int k = 0; k < a.length; k++) {
            rest[k] = a[k].mod(BigInteger.valueOf(prime)).intValue();
        }
        int found = 0;
        for (int degree = 1; 2 * degree < rest.length; degree++) {
            int rows = (int) Math.round(Math.pow(prime, degree));
            for (int n = 0; n < rows && 2 * degree < rest.length; n++) {
                int[] smaller = dividedBy(rest, monic(n, degree, prime), prime);
                found += smaller == null ? 0 : 1;
                while (smaller != null) {
                    rest = smaller;
                    smaller = dividedBy(rest, monic(n, degree, prime), prime);
                }
            }
        }
        return rest.length > 1 ? found + 1 : found;
    }

    private static int[] monic(int n, int degree, int prime) {
        int[] row = new int[degree + 1];
        row[degree] = 1;
        int left = n;
        for (int k = 0; k < degree; k++) {
            row[k] = left % prime;
            left /= prime;
        }
        return row;
    }

    private static int[] dividedBy(int[] a, int[] monic, int prime) {
        if (a.length < monic.length) {
            return null;
        }
        int[] rest = a.clone();
        int[] row = new int[a.length - monic.length + 1];
        for (int k = row.length - 1; k >= 0; k--) {
            row[k] = rest[k + monic.length - 1];
            for (int j = 0; j < monic.length; j++) {
                rest[k + j] = Math.floorMod(rest[k + j] - row[k] * monic[j], prime);
            }
        }
        for (int v : rest) {
            if (v != 0) {
                return null;
            }
        }
        return row;
    }
}
