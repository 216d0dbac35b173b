import java.util.function.Consumer;
import java.util.function.Supplier;
import java.util.function.ToLongFunction;

/**
 * Calls that must leave an object as it was. A recipe makes the object twice; one of the two hears the call, and then
 * both are asked for all that can be seen of them. Every object hears far less than the 512 calls that it is good for.
 */
final class Edges {
    static final Class<?> INDEX = ArrayIndexOutOfBoundsException.class;
    static final Class<?> STATE = IllegalStateException.class;
    static final Class<?> ARGUMENT = IllegalArgumentException.class;
    static final Class<?> DIVISION = ArithmeticException.class;

    static final int LEAST = Integer.MIN_VALUE;
    static final int GREATEST = Integer.MAX_VALUE;

    /** What lies on the wrong side of 0 .. 79, next to it and far off. */
    static final int[] NO_POLYNOMIAL = {-1, 80, LEAST, GREATEST};

    /** Polynomials of a busy object that have been given and are 0: two to be written over, one that stays 0. */
    static final int PLACE = 10;
    static final int OTHER = 11;
    static final int ZERO = 12;

    private static final long REFUSED = Long.MIN_VALUE;

    private Edges() {
    }

    /**
     * An object with so many numbers left (66 at most) that has factored x^3 - x^2: its factors are x - 1, once, and x,
     * twice. No number that is left has the polynomial 0, so that a call which clears or fills one is found out.
     */
    static LiftFactors busy(int left) {
        LiftFactors x = new LiftFactors();
        x.run(Check.make(x, 0, 0, -1, 1));
        while (x.count() < 80 - left) {
            x.poly();
        }
        for (int p = 80 - left; p < 80; p++) {
            x.set(p, p % 11, p);
        }
        return x;
    }

    static LiftFactors busy() {
        return busy(40);
    }

    static LiftFactors full() {
        return busy(0);
    }

    /** Writes these coefficients, from the power 0 on, over those of a polynomial. */
    static LiftFactors with(LiftFactors x, int p, int... coefficients) {
        for (int k = 0; k < coefficients.length; k++) {
            x.set(p, k, coefficients[k]);
        }
        return x;
    }

    /** The row c * x^k. */
    static int[] term(int c, int k) {
        int[] row = new int[k + 1];
        row[k] = c;
        return row;
    }

    /** The call throws this, and nothing changes. */
    static void refused(String what, Class<?> due, Supplier<LiftFactors> recipe, Consumer<LiftFactors> call) {
        LiftFactors x = recipe.get();
        Check.fails(what, due, () -> call.accept(x));
        likeItsTwin(what, x, recipe.get());
    }

    /** The call answers this, and nothing changes. */
    static void unchanged(String what, long due, Supplier<LiftFactors> recipe, ToLongFunction<LiftFactors> call) {
        LiftFactors x = recipe.get();
        Check.same(what, call.applyAsLong(x), due);
        likeItsTwin(what, x, recipe.get());
    }

    /** The call gives the next number, to a polynomial with these coefficients; no other changes. */
    static void given(String what, Supplier<LiftFactors> recipe, ToLongFunction<LiftFactors> call, int... due) {
        LiftFactors x = recipe.get();
        LiftFactors twin = recipe.get();
        int number = twin.poly();
        with(twin, number, due);
        Check.same(what, call.applyAsLong(x), number);
        Check.row(what, x, number, due);
        likeItsTwin(what, x, twin);
    }

    /**
     * The call answers how many rows there are; they get the next numbers, in this order, as factors with these
     * multiplicities, and no other polynomial changes.
     */
    static void factored(String what, Supplier<LiftFactors> recipe, int p, int[] multiplicities, int[]... due) {
        LiftFactors x = recipe.get();
        LiftFactors twin = recipe.get();
        int first = x.count();
        Check.same(what, x.run(p), due.length);
        for (int k = 0; k < due.length; k++) {
            with(twin, twin.poly(), due[k]);
            Check.same(what + ", factor " + k, x.factor(k), first + k);
            Check.same(what + ", multiplicity " + k, x.multiplicity(k), multiplicities[k]);
        }
        for (int k : new int[] {-1, due.length, due.length + 1, LEAST, GREATEST}) {
            Check.fails(what + ", factor " + k, INDEX, () -> x.factor(k));
            Check.fails(what + ", multiplicity " + k, INDEX, () -> x.multiplicity(k));
        }
        samePolynomials(what, x, twin);
    }

    private static void samePolynomials(String what, LiftFactors x, LiftFactors twin) {
        for (int p = 0; p < 80; p++) {
            Check.same(what + ", then polynomial " + p, print(x, p), print(twin, p));
        }
        Check.same(what + ", then count", x.count(), twin.count());
    }

    private static void likeItsTwin(String what, LiftFactors x, LiftFactors twin) {
        samePolynomials(what, x, twin);
        for (int k = 0; k <= 10; k++) {
            int place = k;
            Check.same(what + ", then factor " + k,
                    ask(() -> (long) x.factor(place)), ask(() -> (long) twin.factor(place)));
            Check.same(what + ", then multiplicity " + k,
                    ask(() -> (long) x.multiplicity(place)), ask(() -> (long) twin.multiplicity(place)));
        }
        Check.same(what + ", then poly", ask(() -> (long) x.poly()), ask(() -> (long) twin.poly()));
    }

    /** One call for all eleven coefficients: modulo this prime, no change of one of them can hide. */
    private static long print(LiftFactors x, int p) {
        return x.value(p, 4099, 999983);
    }

    private static long ask(Supplier<Long> call) {
        try {
            return call.get();
        } catch (RuntimeException e) {
            return REFUSED;
        }
    }
}
