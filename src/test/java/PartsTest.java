/** Promise 14 (parts). */
public final class PartsTest {
    private static final Class<?> INDEX = ArrayIndexOutOfBoundsException.class;
    private static final Class<?> ARGUMENT = IllegalArgumentException.class;

    public static void main(String[] args) {
        ordinary();
        fermat();
        edges();
        primesAlone();
        Check.end();
    }

    private static int partsOf(int prime, int... coefficients) {
        LiftFactors x = new LiftFactors();
        int p = Check.make(x, coefficients);
        int parts = x.parts(p, prime);
        Check.row("the polynomial stays", x, p, coefficients);
        Check.same("no number is given", x.count(), 1);
        return parts;
    }

    private static void ordinary() {
        Check.same("x^2 + 1 modulo 2", partsOf(2, 1, 0, 1), 1);
        Check.same("x^2 + 1 modulo 3", partsOf(3, 1, 0, 1), 1);
        Check.same("x^2 + 1 modulo 5", partsOf(5, 1, 0, 1), 2);
        Check.same("x^2 + x modulo 2", partsOf(2, 0, 1, 1), 2);
        Check.same("-3x^2 - 3 modulo 13", partsOf(13, -3, 0, -3), 2);
        Check.same("x^4 + 1 modulo 17", partsOf(17, 1, 0, 0, 0, 1), 4);
        Check.same("x^4 + 1 modulo 97", partsOf(97, 1, 0, 0, 0, 1), 4);
        Check.same("x^10 + 1 modulo 5", partsOf(5, 1, 0, 0, 0, 0, 0, 0, 0, 0, 0, 1), 2);
        Check.same("the eleventh roots modulo 23", partsOf(23, 1, 1, 1, 1, 1, 1, 1, 1, 1, 1, 1), 10);
        Check.same("the eleventh roots modulo 2", partsOf(2, 1, 1, 1, 1, 1, 1, 1, 1, 1, 1, 1), 1);
    }

    /** x^p - x is the product of all x - a. */
    private static void fermat() {
        for (int prime : new int[] {2, 3, 5, 7}) {
            int[] row = new int[prime + 1];
            row[prime] = 1;
            row[1] = -1;
            Check.same("x^p - x", partsOf(prime, row), prime);
            row[1] = 0;
            Check.same("x^p", partsOf(prime, row), 1);
            row[1] = -1;
            row[0] = 1;
            Check.same("x^p - x + 1", partsOf(prime, row), 1);
        }
    }

    private static void edges() {
        Check.same("0", partsOf(5, 0), -1);
        Check.same("a constant", partsOf(5, 7), 0);
        Check.same("a constant that is 0", partsOf(7, -7), -1);
        Check.same("a head that is 0", partsOf(3, 1, 1, 9), -1);
        Check.same("a head below 0 that is 0", partsOf(3, 1, 1, -9), -1);
        Check.same("all but the head is 0", partsOf(3, 9, -9, 1), 1);
        Check.same("a power counts once", partsOf(7, 1, 3, 3, 1), 1);
        Check.same("x^2 (x + 1)^3 modulo 3", partsOf(3, 0, 0, 1, 3, 3, 1), 2);
        Check.same("linear", partsOf(89, 9999, 9998), 1);
    }

    private static void primesAlone() {
        LiftFactors x = new LiftFactors();
        int p = Check.make(x, 1, 1);
        int primes = 0;
        for (int n = -3; n < 130; n++) {
            if (n >= 2 && n <= 97 && java.math.BigInteger.valueOf(n).isProbablePrime(50)) {
                Check.same("modulo " + n, x.parts(p, n), 1);
                primes++;
            } else {
                int other = n;
                Check.fails("modulo " + n, ARGUMENT, () -> x.parts(p, other));
            }
        }
        Check.same("primes", primes, 25);
        Check.fails("modulo the least int", ARGUMENT, () -> x.parts(p, Integer.MIN_VALUE));
        Check.fails("modulo the greatest int", ARGUMENT, () -> x.parts(p, Integer.MAX_VALUE));
        Check.fails("0 modulo 4", ARGUMENT, () -> x.parts(79, 4));
        Check.fails("parts p 80", INDEX, () -> x.parts(80, 4));
        Check.fails("parts p -1", INDEX, () -> x.parts(-1, 5));
    }
}
