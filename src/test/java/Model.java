import java.math.BigInteger;
import java.util.ArrayList;
import java.util.Arrays;
import java.util.List;
import java.util.TreeMap;

/**
 * The document as an object, done the slow way: what RunsTest compares every answer with. Pieces of factors are joined
 * as in the class, but come by degrees and by a far greater prime; parts come by degrees too, and roots by the factors.
 */
final class Model {
    private static final SlowFactors FACTORS = new SlowFactors();

    private final BigInteger[][] rows = new BigInteger[80][];
    private int given = 0;
    private final List<Integer> numbers = new ArrayList<>();
    private final List<Integer> multiplicities = new ArrayList<>();

    Model() {
        Arrays.fill(rows, Slow.row());
    }

    int poly() {
        needNumbers(1);
        return give(Slow.row());
    }

    boolean set(int p, int k, int v) {
        needPolynomial(p);
        needPower(k);
        if (Math.abs((long) v) > 9999) {
            throw new IllegalArgumentException("v");
        }
        BigInteger[] row = Arrays.copyOf(rows[p], 11);
        for (int j = rows[p].length; j < 11; j++) {
            row[j] = BigInteger.ZERO;
        }
        boolean another = row[k].intValue() != v;
        row[k] = BigInteger.valueOf(v);
        rows[p] = Slow.trim(row);
        return another;
    }

    int at(int p, int k) {
        needPolynomial(p);
        needPower(k);
        return k < rows[p].length ? rows[p][k].intValue() : 0;
    }

    int times(int a, int b) {
        needPolynomial(a);
        needPolynomial(b);
        needNumbers(1);
        BigInteger[] product = Slow.product(rows[a], rows[b]);
        if (!Slow.fits(product)) {
            throw new IllegalArgumentException("too great");
        }
        return give(product);
    }

    int over(int a, int b) {
        needPolynomial(a);
        needPolynomial(b);
        needNumbers(1);
        if (rows[b].length == 0) {
            throw new ArithmeticException("b is 0");
        }
        BigInteger[] quotient = Slow.quotient(rows[a], rows[b]);
        return quotient != null && Slow.fits(quotient) ? give(quotient) : -1;
    }

    int gcd(int a, int b) {
        needPolynomial(a);
        needPolynomial(b);
        needNumbers(1);
        BigInteger[] divisor = Slow.gcd(rows[a], rows[b]);
        return Slow.fits(divisor) ? give(divisor) : -1;
    }

    int run(int p) {
        needPolynomial(p);
        needNumbers(Math.max(0, rows[p].length - 1));
        if (rows[p].length == 0) {
            return -1;
        }
        TreeMap<BigInteger[], Integer> factors = FACTORS.of(rows[p]);
        for (BigInteger[] factor : factors.keySet()) {
            if (!Slow.fits(factor)) {
                return -2;
            }
        }
        numbers.clear();
        multiplicities.clear();
        factors.forEach((factor, multiplicity) -> {
            numbers.add(give(factor));
            multiplicities.add(multiplicity);
        });
        return factors.size();
    }

    int factor(int k) {
        needFactor(k);
        return numbers.get(k);
    }

    int multiplicity(int k) {
        needFactor(k);
        return multiplicities.get(k);
    }

    int content(int p) {
        needPolynomial(p);
        return Slow.content(rows[p]).intValue();
    }

    int root(int p, int k, int part) {
        needPolynomial(p);
        List<BigInteger[]> lines = lines(p);
        if (part < 0 || part > 1 || k < 0 || k >= lines.size()) {
            throw new IllegalArgumentException("no such root, or part, or the polynomial is 0");
        }
        return part == 0 ? lines.get(k)[0].negate().intValue() : lines.get(k)[1].intValue();
    }

    int roots(int p) {
        needPolynomial(p);
        return rows[p].length == 0 ? -1 : lines(p).size();
    }

    int parts(int p, int prime) {
        needPolynomial(p);
        if (prime < 2 || prime > 97 || !BigInteger.valueOf(prime).isProbablePrime(50)) {
            throw new IllegalArgumentException("prime");
        }
        BigInteger[] row = rows[p];
        boolean none = row.length == 0 || row[row.length - 1].intValue() % prime == 0;
        return none ? -1 : new Modular(BigInteger.valueOf(prime)).parts(row);
    }

    boolean squareFree(int p) {
        needPolynomial(p);
        return rows[p].length > 0 && FACTORS.of(rows[p]).values().stream().allMatch(often -> often == 1);
    }

    int value(int p, int x, int m) {
        needPolynomial(p);
        if (m < 1 || m > 1000000) {
            throw new IllegalArgumentException("m");
        }
        return Slow.value(rows[p], x, m);
    }

    int count() {
        return given;
    }

    /** The factors of degree 1, the one with the least root first: -a0 / a1 before -b0 / b1 if b0 a1 is below a0 b1. */
    private List<BigInteger[]> lines(int p) {
        List<BigInteger[]> lines = new ArrayList<>(FACTORS.of(rows[p]).keySet());
        lines.removeIf(factor -> factor.length != 2);
        lines.sort((a, b) -> b[0].multiply(a[1]).compareTo(a[0].multiply(b[1])));
        return lines;
    }

    private int give(BigInteger[] row) {
        rows[given] = row;
        given++;
        return given - 1;
    }

    private static void needPolynomial(int p) {
        if (p < 0 || p > 79) {
            throw new ArrayIndexOutOfBoundsException("p");
        }
    }

    private static void needPower(int k) {
        if (k < 0 || k > 10) {
            throw new ArrayIndexOutOfBoundsException("k");
        }
    }

    private void needFactor(int k) {
        if (k < 0 || k >= numbers.size()) {
            throw new ArrayIndexOutOfBoundsException("k");
        }
    }

    private void needNumbers(int needed) {
        if (80 - given < needed) {
            throw new IllegalStateException("no number is left");
        }
    }
}
