import java.math.BigInteger;
import java.util.ArrayList;
import java.util.Arrays;
import java.util.List;
import java.util.Random;

/** Rows modulo a prime, with whole numbers of any size: how they fall apart, by the degrees of what divides them. */
final class Modular {
    private final BigInteger prime;
    private final Random chance = new Random(17);

    Modular(BigInteger prime) {
        this.prime = prime;
    }

    BigInteger[] reduce(BigInteger[] a) {
        BigInteger[] row = new BigInteger[a.length];
        for (int k = 0; k < a.length; k++) {
            row[k] = a[k].mod(prime);
        }
        return Slow.trim(row);
    }

    BigInteger[] monic(BigInteger[] a) {
        BigInteger[] row = reduce(a);
        return row.length == 0 ? row : reduce(Slow.product(row, constant(row[row.length - 1].modInverse(prime))));
    }

    private static BigInteger[] constant(BigInteger v) {
        return Slow.trim(new BigInteger[] {v});
    }

    /** The quotient and the rest of a by a monic row. */
    private BigInteger[][] divide(BigInteger[] a, BigInteger[] monic) {
        BigInteger[] rest = a.clone();
        BigInteger[] quotient = new BigInteger[Math.max(0, a.length - monic.length + 1)];
        for (int k = quotient.length - 1; k >= 0; k--) {
            quotient[k] = rest[k + monic.length - 1].mod(prime);
            for (int j = 0; j < monic.length; j++) {
                rest[k + j] = rest[k + j].subtract(quotient[k].multiply(monic[j]));
            }
        }
        return new BigInteger[][] {reduce(quotient), reduce(rest)};
    }

    BigInteger[] gcd(BigInteger[] a, BigInteger[] b) {
        BigInteger[] u = monic(a);
        BigInteger[] v = monic(b);
        while (v.length > 0) {
            BigInteger[] rest = monic(divide(u, v)[1]);
            u = v;
            v = rest;
        }
        return u;
    }

    private BigInteger[] power(BigInteger[] a, BigInteger e, BigInteger[] monic) {
        BigInteger[] row = divide(Slow.row(1), monic)[1];
        for (int bit = e.bitLength() - 1; bit >= 0; bit--) {
            row = divide(Slow.product(row, row), monic)[1];
            row = e.testBit(bit) ? divide(Slow.product(row, a), monic)[1] : row;
        }
        return row;
    }

    private BigInteger[] minus(BigInteger[] a, BigInteger[] b) {
        BigInteger[] row = new BigInteger[Math.max(a.length, b.length)];
        Arrays.fill(row, BigInteger.ZERO);
        for (int k = 0; k < row.length; k++) {
            row[k] = (k < a.length ? a[k] : row[k]).subtract(k < b.length ? b[k] : BigInteger.ZERO);
        }
        return reduce(row);
    }

    /**
     * What the monic row shares with x^(prime^d) - x, the product of all monic rows, each once, that don't fall apart
     * and whose degree divides d.
     */
    private BigInteger[] shared(BigInteger[] monic, BigInteger[] power) {
        return gcd(monic, minus(power, Slow.row(0, 1)));
    }

    /** How many different monic rows that don't fall apart divide this one. */
    int parts(BigInteger[] a) {
        BigInteger[] monic = monic(a);
        BigInteger[] power = divide(Slow.row(0, 1), monic)[1];
        int[] ofDegree = new int[monic.length];
        int all = 0;
        for (int d = 1; d < monic.length; d++) {
            power = power(power, prime, monic);
            int degrees = shared(monic, power).length - 1;
            for (int e = 1; e < d; e++) {
                degrees -= d % e == 0 ? e * ofDegree[e] : 0;
            }
            ofDegree[d] = degrees / d;
            all += ofDegree[d];
        }
        return all;
    }

    /** All monic rows that don't fall apart and divide this one, which has no square in it. */
    List<BigInteger[]> split(BigInteger[] a) {
        List<BigInteger[]> pieces = new ArrayList<>();
        BigInteger[] left = monic(a);
        BigInteger[] power = Slow.row(0, 1);
        for (int d = 1; 2 * d < left.length; d++) {
            power = power(power, prime, left);
            BigInteger[] ofDegree = shared(left, power);
            left = divide(left, ofDegree)[0];
            splitEvenly(ofDegree, d, pieces);
        }
        if (left.length > 1) {
            pieces.add(left);
        }
        return pieces;
    }

    /** By Cantor's and Zassenhaus's way: half of all rows are squares modulo a piece, whatever they are by another. */
    private void splitEvenly(BigInteger[] monic, int d, List<BigInteger[]> pieces) {
        if (monic.length - 1 <= d) {
            if (monic.length > 1) {
                pieces.add(monic);
            }
            return;
        }
        BigInteger half = prime.pow(d).shiftRight(1);
        BigInteger[] part = monic;
        while (part.length == monic.length || part.length == 1) {
            BigInteger[] row = new BigInteger[monic.length - 1];
            for (int k = 0; k < row.length; k++) {
                row[k] = new BigInteger(prime.bitLength(), chance);
            }
            part = gcd(monic, minus(power(reduce(row), half, monic), Slow.row(1)));
        }
        splitEvenly(part, d, pieces);
        splitEvenly(divide(monic, part)[0], d, pieces);
    }

    /** The whole numbers next to 0 that have these remainders. */
    BigInteger[] nearest(BigInteger[] a) {
        BigInteger[] row = reduce(a);
        for (int k = 0; k < row.length; k++) {
            row[k] = row[k].shiftLeft(1).compareTo(prime) > 0 ? row[k].subtract(prime) : row[k];
        }
        return row;
    }
}
