import java.math.BigInteger;
import java.util.Arrays;
import java.util.Random;
import java.util.TreeMap;

/**
 * Many polynomials, the same at every run, against the slow ways of {@link Slow}. Some objects are asked for several,
 * so that nothing of one may be left over when the next is worked on.
 */
public final class RandomTest {
    private static final Random CHANCE = new Random(20261115);

    public static void main(String[] args) {
        for (int k = 0; k < 3000; k++) {
            int bound = new int[] {1, 3, 20, 9999}[k % 4];
            single(chosen(k % 11, bound));
            pair(chosen(CHANCE.nextInt(4), bound), chosen(CHANCE.nextInt(5), 9), chosen(CHANCE.nextInt(5), 9));
        }
        LiftFactors x = new LiftFactors();
        for (int k = 0; k < 3000; k++) {
            x = k % 3 == 0 ? new LiftFactors() : x;
            knownFactors(x);
        }
        for (int k = 0; k < 400; k++) {
            x = k % 30 == 0 ? new LiftFactors() : x;
            modular(x, chosen(CHANCE.nextInt(11), 50));
        }
        for (int k = 0; k < 400; k++) {
            smallRoots(chosen(1 + k % 4, 6));
        }
        for (int k = 0; k < 200; k++) {
            nothingIsLeftOver();
        }
        Check.end();
    }

    private static int[] chosen(int degree, int bound) {
        int[] row = new int[degree + 1];
        for (int k = 0; k <= degree; k++) {
            row[k] = CHANCE.nextInt(2 * bound + 1) - bound;
        }
        return row;
    }

    private static void single(int[] row) {
        String what = Arrays.toString(row);
        LiftFactors x = new LiftFactors();
        int p = Check.make(x, row);
        BigInteger[] slow = Slow.row(row);
        Check.same("content of " + what, x.content(p), Slow.content(slow).intValue());
        Check.same("squareFree of " + what, x.squareFree(p) ? 1 : 0, Slow.squareFree(slow) ? 1 : 0);
        int m = 1 + CHANCE.nextInt(1000000);
        int place = CHANCE.nextInt();
        Check.same("value of " + what + " at " + place + " modulo " + m,
                x.value(p, place, m), Slow.value(slow, place, m));
        if (slow.length > 1) {
            productOfFactors(what, x, p, slow);
        }
    }

    private static void productOfFactors(String what, LiftFactors x, int p, BigInteger[] slow) {
        int factors = x.run(p);
        if (factors == -2) {
            return;
        }
        BigInteger[] product = {Slow.content(slow)};
        int linear = 0;
        for (int k = 0; k < factors; k++) {
            int[] row = new int[11];
            for (int j = 0; j <= 10; j++) {
                row[j] = x.at(x.factor(k), j);
            }
            BigInteger[] factor = Slow.row(row);
            linear += factor.length == 2 ? 1 : 0;
            for (int j = 0; j < x.multiplicity(k); j++) {
                product = Slow.product(product, factor);
            }
        }
        Check.yes("product of the factors of " + what, Arrays.equals(product, slow));
        Check.same("roots of " + what, x.roots(p), linear);
    }

    private static void pair(int[] shared, int[] left, int[] right) {
        BigInteger[] a = Slow.product(Slow.row(shared), Slow.row(left));
        BigInteger[] b = Slow.product(Slow.row(shared), Slow.row(right));
        if (!Slow.fits(a) || !Slow.fits(b)) {
            return;
        }
        String what = Arrays.toString(a) + " and " + Arrays.toString(b);
        LiftFactors x = new LiftFactors();
        int p = Check.make(x, Slow.ints(a));
        int q = Check.make(x, Slow.ints(b));
        answer("gcd of " + what, x, x.gcd(p, q), Slow.gcd(a, b));
        if (b.length > 0) {
            answer("over of " + what, x, x.over(p, q), Slow.quotient(a, b));
        }
        BigInteger[] product = Slow.product(a, b);
        if (Slow.fits(product)) {
            answer("times of " + what, x, x.times(p, q), product);
        } else {
            Check.fails("times of " + what, IllegalArgumentException.class, () -> x.times(p, q));
        }
    }

    private static void answer(String what, LiftFactors x, int number, BigInteger[] due) {
        if (due == null || !Slow.fits(due)) {
            Check.same(what, number, -1);
        } else {
            Check.same(what, number, x.count() - 1);
            Check.row(what, x, number, Slow.ints(due));
        }
    }

    /** Eisenstein's rows by 2, 3, 5 and 7, and linear ones, fall no further apart. */
    private static BigInteger[] prime() {
        int degree = 1 + CHANCE.nextInt(4);
        int e = new int[] {2, 3, 5, 7}[CHANCE.nextInt(4)];
        int[] row = chosen(degree, 2);
        for (int k = 0; k < degree; k++) {
            row[k] *= e;
        }
        row[0] = CHANCE.nextBoolean() ? e : -e;
        row[degree] = 1 + CHANCE.nextInt(e - 1);
        return Slow.primitive(Slow.row(row));
    }

    private static void knownFactors(LiftFactors x) {
        TreeMap<BigInteger[], Integer> due = new TreeMap<>(Slow.ORDER);
        BigInteger[] product = {BigInteger.valueOf(CHANCE.nextBoolean() ? 2 : -1)};
        for (int k = 0; k < 12; k++) {
            BigInteger[] next = prime();
            BigInteger[] more = Slow.product(product, next);
            if (Slow.fits(more)) {
                product = more;
                due.merge(next, 1, Integer::sum);
            }
        }
        int p = Check.make(x, Slow.ints(product));
        String what = "factors of " + Arrays.toString(product);
        Check.same(what, x.run(p), due.size());
        int k = 0;
        for (BigInteger[] factor : due.keySet()) {
            Check.same(what, x.multiplicity(k), due.get(factor));
            Check.row(what, x, x.factor(k), Slow.ints(factor));
            k++;
        }
    }

    private static void modular(LiftFactors x, int[] row) {
        int p = Check.make(x, row);
        BigInteger[] slow = Slow.row(row);
        for (int prime : new int[] {2, 3, 5, 7}) {
            boolean none = slow.length == 0 || slow[slow.length - 1].intValue() % prime == 0;
            Check.same("parts of " + Arrays.toString(row) + " modulo " + prime, x.parts(p, prime),
                    none ? -1 : Slow.parts(slow, prime));
        }
    }

    private static void smallRoots(int[] row) {
        BigInteger[] slow = Slow.row(row);
        LiftFactors x = new LiftFactors();
        int p = Check.make(x, row);
        String what = "roots of " + Arrays.toString(row);
        int found = 0;
        // Coefficients up to 6 leave fractions from -6 to 6 with 1 .. 6 below, all of them whole sixtieths.
        for (int step = -360; step <= 360 && slow.length > 0; step++) {
            int measure = BigInteger.valueOf(step).gcd(BigInteger.valueOf(60)).intValue();
            int up = step / measure;
            int down = 60 / measure;
            if (Slow.isRoot(slow, up, down)) {
                Check.same(what, x.root(p, found, 0), up);
                Check.same(what, x.root(p, found, 1), down);
                found++;
            }
        }
        Check.same(what, x.roots(p), slow.length == 0 ? -1 : found);
    }

    /** An object that has been asked much answers like a new one with the same polynomials. */
    private static void nothingIsLeftOver() {
        LiftFactors used = new LiftFactors();
        int[][] rows = new int[6][];
        for (int k = 0; k < rows.length; k++) {
            rows[k] = ofFewFactors();
            place(used, 70 + k, rows[k]);
        }
        for (int k = 0; k < 50 && used.count() < 60; k++) {
            int a = CHANCE.nextInt(rows.length);
            int b = CHANCE.nextInt(rows.length);
            LiftFactors fresh = new LiftFactors();
            place(fresh, 70, rows[a]);
            place(fresh, 71, rows[b]);
            int question = CHANCE.nextInt(7);
            String what = Arrays.toString(rows[a]) + " and " + Arrays.toString(rows[b]);
            Check.same("question " + question + " about " + what,
                    ask(question, used, 70 + a, 70 + b), ask(question, fresh, 70, 71));
        }
    }

    private static int[] ofFewFactors() {
        BigInteger[] product = {BigInteger.valueOf(1 + CHANCE.nextInt(3))};
        for (int k = 0; k < 6; k++) {
            BigInteger[] more = Slow.product(product, Slow.row(chosen(1 + CHANCE.nextInt(3), 1)));
            product = Slow.fits(more) && more.length > 0 ? more : product;
        }
        return Slow.ints(product);
    }

    private static void place(LiftFactors x, int p, int[] row) {
        for (int k = 0; k < row.length; k++) {
            x.set(p, k, row[k]);
        }
    }

    private static long ask(int question, LiftFactors x, int p, int q) {
        return switch (question) {
            case 0 -> x.squareFree(p) ? 1 : 0;
            case 1 -> x.roots(p);
            case 2 -> x.parts(p, 3) * 100 + x.parts(p, 97);
            case 3 -> x.content(p);
            case 4 -> spot(x, x.gcd(p, q));
            case 5 -> spot(x, x.over(p, q));
            default -> spotOfFactors(x, x.run(p));
        };
    }

    private static long spot(LiftFactors x, int number) {
        return number < 0 ? number : x.value(number, 54321, 999983);
    }

    private static long spotOfFactors(LiftFactors x, int factors) {
        long sum = factors;
        for (int k = 0; k < factors; k++) {
            sum = sum * 31 + spot(x, x.factor(k)) * 11 + x.multiplicity(k);
        }
        return sum;
    }
}
