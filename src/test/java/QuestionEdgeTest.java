import java.util.function.Supplier;

/**
 * The edges of promises 11 (content), 12 (root), 13 (roots), 14 (parts), 15 (squareFree) and 16 (value). Each method
 * tests the sentence that stands above it. None of these calls changes anything, whatever it answers.
 */
public final class QuestionEdgeTest {
    private static final int PLACE = Edges.PLACE;
    private static final int ZERO = Edges.ZERO;

    public static void main(String[] args) {
        contentOf0();
        contentOfConstants();
        contentOfAHeadBelow0();
        noSuchRoot();
        noSuchPart();
        rootOf0();
        theRoot0();
        rootsThatCountMoreThanOnce();
        rootsBelow0();
        tenRoots();
        rootsOf0();
        rootsOfConstants();
        noRootAtAll();
        headIs0Modulo();
        partsOf0();
        noPrime();
        partsThatCountMoreThanOnce();
        partsOfConstants();
        squareFreeOfConstants();
        squareFreeOf0();
        squaresThatCount();
        noModulus();
        moduliAtTheBounds();
        valuesBelow0();
        valuesOfTheLeastAndTheGreatest();
        Check.end();
    }

    private static Supplier<LiftFactors> busy(int... coefficients) {
        return () -> Edges.with(Edges.busy(), PLACE, coefficients);
    }

    private static int[] row(int... coefficients) {
        return coefficients;
    }

    private static void contentIs(int due, int... coefficients) {
        Edges.unchanged("content " + due, due, busy(coefficients), x -> x.content(PLACE));
    }

    /** "of 0 it is 0". */
    private static void contentOf0() {
        contentIs(0, 0);
        Edges.unchanged("content of 0", 0, Edges::full, x -> x.content(ZERO));
    }

    /** Of a constant: the constant itself, since 1 is the primitive one. */
    private static void contentOfConstants() {
        for (int v : new int[] {1, -1, 2, -12, 9999, -9999}) {
            contentIs(v, v);
        }
    }

    /** "the whole number that times a primitive one is that", and a primitive one's head is above 0. */
    private static void contentOfAHeadBelow0() {
        contentIs(-1, 0, -1);
        contentIs(-1, 3, -2);
        contentIs(1, -3, 2);
        contentIs(-6, 12, 18, -30);
        contentIs(6, -12, -18, 30);
        contentIs(-9999, Edges.term(-9999, 10));
        contentIs(9999, Edges.term(9999, 10));
        contentIs(-3, 9999, 0, 0, 0, 0, 0, 0, 0, 0, 0, -3);
    }

    /** The roots that are due stand as pairs: the part above, the part below. */
    private static void rootsAre(String what, int[] coefficients, int... due) {
        int found = due.length / 2;
        Edges.unchanged("roots of " + what, found, busy(coefficients), x -> x.roots(PLACE));
        for (int k = 0; k < found; k++) {
            int place = k;
            Edges.unchanged("root " + k + " above of " + what, due[2 * k],
                    busy(coefficients), x -> x.root(PLACE, place, 0));
            Edges.unchanged("root " + k + " below of " + what, due[2 * k + 1],
                    busy(coefficients), x -> x.root(PLACE, place, 1));
        }
        noRoot(what, found, coefficients);
    }

    /** "there is no such root", from this one on, and below 0, for either part. */
    private static void noRoot(String what, int found, int... coefficients) {
        for (int k : new int[] {found, found + 1, -1, Edges.LEAST, Edges.GREATEST}) {
            Edges.refused("root " + k + " above of " + what, Edges.ARGUMENT,
                    busy(coefficients), x -> x.root(PLACE, k, 0));
            Edges.refused("root " + k + " below of " + what, Edges.ARGUMENT,
                    busy(coefficients), x -> x.root(PLACE, k, 1));
        }
    }

    /** "IllegalArgumentException: there is no such root". */
    private static void noSuchRoot() {
        rootsAre("x^2 - 5x + 6", row(6, -5, 1), 2, 1, 3, 1);
        rootsAre("4x - 6", row(-6, 4), 3, 2);
        noRoot("x^2 + 1", 0, 1, 0, 1);
        noRoot("a constant", 0, 5);
    }

    /** "or part": 0 and 1 are all there are. */
    private static void noSuchPart() {
        Edges.unchanged("part 0", 3, busy(-3, 2), x -> x.root(PLACE, 0, 0));
        Edges.unchanged("part 1", 2, busy(-3, 2), x -> x.root(PLACE, 0, 1));
        for (int part : new int[] {-1, 2, Edges.LEAST, Edges.GREATEST}) {
            Edges.refused("part " + part, Edges.ARGUMENT, busy(-3, 2), x -> x.root(PLACE, 0, part));
            Edges.refused("part " + part + ", no such root", Edges.ARGUMENT, busy(-3, 2), x -> x.root(PLACE, 1, part));
        }
    }

    /** "or the polynomial is 0", though it is 0 everywhere; also after another one's roots were asked for. */
    private static void rootOf0() {
        noRoot("0", 0, 0);
        Edges.refused("root of 0, part 2", Edges.ARGUMENT, Edges::busy, x -> x.root(ZERO, 0, 2));
        LiftFactors x = busy(6, -5, 1).get();
        Check.same("a root", x.root(PLACE, 1, 0), 3);
        Check.fails("then one of 0", Edges.ARGUMENT, () -> x.root(ZERO, 0, 0));
        Check.fails("then the second of 0", Edges.ARGUMENT, () -> x.root(ZERO, 1, 0));
    }

    /** The root 0 is 0 above and 1 below, and stands between those below and above it. */
    private static void theRoot0() {
        rootsAre("x", row(0, 1), 0, 1);
        rootsAre("-9999x", row(0, -9999), 0, 1);
        rootsAre("5x^10", Edges.term(5, 10), 0, 1);
        rootsAre("x^3 - x", row(0, -1, 0, 1), -1, 1, 0, 1, 1, 1);
        rootsAre("x^3 + x", row(0, 1, 0, 1), 0, 1);
    }

    /** A root that counts more than once is one number. */
    private static void rootsThatCountMoreThanOnce() {
        rootsAre("(x - 3)^2", row(9, -6, 1), 3, 1);
        rootsAre("(2x + 1)^3", row(1, 6, 12, 8), -1, 2);
        rootsAre("x^2 (x - 1)^2", row(0, 0, 1, -2, 1), 0, 1, 1, 1);
        rootsAre("(x + 1)^10", row(1, 10, 45, 120, 210, 252, 210, 120, 45, 10, 1), -1, 1);
    }

    /** "the least first: its part above (part 0) or below (1, above 0), in lowest terms", for roots below 0 too. */
    private static void rootsBelow0() {
        rootsAre("6x^2 + 5x + 1", row(1, 5, 6), -1, 2, -1, 3);
        rootsAre("6x^2 + x - 1", row(-1, 1, 6), -1, 2, 1, 3);
        rootsAre("-6x^2 - x + 1", row(1, -1, -6), -1, 2, 1, 3);
        rootsAre("4x + 6", row(6, 4), -3, 2);
        rootsAre("-4x - 6", row(-6, -4), -3, 2);
        rootsAre("x + 9999", row(9999, 1), -9999, 1);
        rootsAre("9999x + 1", row(1, 9999), -1, 9999);
        rootsAre("9999x - 9998", row(-9998, 9999), 9998, 9999);
    }

    /** As many roots as there can be. */
    private static void tenRoots() {
        rootsAre("ten lines", row(0, -576, 1152, 820, -1640, -273, 546, 30, -60, -1, 2),
                -4, 1, -3, 1, -2, 1, -1, 1, 0, 1, 1, 2, 1, 1, 2, 1, 3, 1, 4, 1);
    }

    /** "-1 of 0". */
    private static void rootsOf0() {
        Edges.unchanged("roots of 0", -1, Edges::busy, x -> x.roots(ZERO));
        Edges.unchanged("roots of 0, full", -1, Edges::full, x -> x.roots(ZERO));
        Edges.unchanged("roots of 0 in a new object", -1, LiftFactors::new, x -> x.roots(79));
    }

    /** Of a constant there are none, as it is nowhere 0. */
    private static void rootsOfConstants() {
        for (int v : new int[] {1, -1, 9999, -9999}) {
            rootsAre("a constant", row(v));
        }
    }

    /** No root at all: the number is 0. */
    private static void noRootAtAll() {
        rootsAre("x^2 + 1", row(1, 0, 1));
        rootsAre("x^2 - 2", row(-2, 0, 1));
        rootsAre("x^10 + x + 1", row(1, 1, 0, 0, 0, 0, 0, 0, 0, 0, 1));
        rootsAre("many divisors at both ends", row(7560, 0, 0, 0, 0, 0, 0, 0, 0, 1, 9240));
    }

    private static void partsAre(int due, int prime, int... coefficients) {
        Edges.unchanged("parts modulo " + prime, due, busy(coefficients), x -> x.parts(PLACE, prime));
    }

    /** "-1 if its head is 0 modulo that", and not if another coefficient is. */
    private static void headIs0Modulo() {
        for (int prime : new int[] {2, 3, 97}) {
            partsAre(-1, prime, 1, prime);
            partsAre(-1, prime, 1, -prime);
            partsAre(-1, prime, 1, 1, 5 * prime);
            partsAre(1, prime, 1, prime + 1);
            partsAre(1, prime, 1, prime - 1);
            partsAre(1, prime, 1, 1 - prime);
            partsAre(1, prime, prime, -prime, prime, 1);
        }
        partsAre(-1, 11, Edges.term(9999, 10));
        partsAre(1, 7, Edges.term(9999, 10));
    }

    /** "(or it is 0)". */
    private static void partsOf0() {
        for (int prime : new int[] {2, 97}) {
            Edges.unchanged("parts of 0", -1, Edges::busy, x -> x.parts(ZERO, prime));
        }
        Edges.refused("parts of 0 modulo 4", Edges.ARGUMENT, Edges::busy, x -> x.parts(ZERO, 4));
    }

    /** "IllegalArgumentException: prime is no prime, 2 .. 97". */
    private static void noPrime() {
        boolean[] composite = new boolean[131];
        for (int d = 2; d < composite.length; d++) {
            for (int n = 2 * d; n < composite.length; n += d) {
                composite[n] = true;
            }
        }
        for (int n = -130; n <= 130; n++) {
            int prime = n;
            if (n >= 2 && n <= 97 && !composite[n]) {
                partsAre(1, prime, 1, 1);
            } else {
                Edges.refused("parts modulo " + n, Edges.ARGUMENT, Edges::busy, x -> x.parts(1, prime));
            }
        }
        for (int n : new int[] {Edges.LEAST, Edges.GREATEST, 65537, 257, 256 * 256 * 256 + 2}) {
            Edges.refused("parts modulo " + n, Edges.ARGUMENT, Edges::busy, x -> x.parts(1, n));
        }
        Edges.refused("parts modulo 8, a head that is 0 modulo 8", Edges.ARGUMENT, busy(1, 8), x -> x.parts(PLACE, 8));
    }

    /** "each counted once": those that count more than once there, though not over the whole numbers, too. */
    private static void partsThatCountMoreThanOnce() {
        partsAre(1, 5, 1, 2, 1);
        partsAre(1, 2, 1, 0, 1);
        partsAre(1, 2, 0, 0, 1);
        partsAre(2, 3, 0, 0, 1, 3, 3, 1);
        partsAre(1, 3, 1, 0, 2, 0, 1);
        partsAre(2, 5, 1, 0, 0, 0, 0, 0, 0, 0, 0, 0, 1);
        partsAre(1, 97, 1, 10, 45, 120, 210, 252, 210, 120, 45, 10, 1);
        partsAre(10, 23, 1, 1, 1, 1, 1, 1, 1, 1, 1, 1, 1);
        partsAre(1, 2, 1, 1, 1, 1, 1, 1, 1, 1, 1, 1, 1);
    }

    /** A constant has no factors; if it is 0 modulo the prime, so is its head. */
    private static void partsOfConstants() {
        partsAre(0, 2, 1);
        partsAre(0, 97, -9999);
        partsAre(0, 5, 7);
        partsAre(-1, 7, 7);
        partsAre(-1, 7, -7);
        partsAre(-1, 97, 97);
        partsAre(0, 89, 97);
    }

    private static void squareFreeIs(boolean due, int... coefficients) {
        Edges.unchanged("squareFree", due ? 1 : 0, busy(coefficients), x -> x.squareFree(PLACE) ? 1 : 0);
    }

    /** "true of constants". */
    private static void squareFreeOfConstants() {
        for (int v : new int[] {1, -1, 4, -4, 9999, -9999}) {
            squareFreeIs(true, v);
        }
    }

    /** "false of 0". */
    private static void squareFreeOf0() {
        squareFreeIs(false, 0);
        Edges.unchanged("squareFree of 0, full", 0, Edges::full, x -> x.squareFree(ZERO) ? 1 : 0);
    }

    /** "no square of a polynomial of a degree above 0": squares in the content don't count. */
    private static void squaresThatCount() {
        squareFreeIs(true, 0, 1);
        squareFreeIs(true, 0, 4);
        squareFreeIs(true, -9, 0, 9);
        squareFreeIs(false, 0, 0, 1);
        squareFreeIs(false, -1, 4, -4);
        squareFreeIs(false, 4, 0, 0, 0, 0, -4, 0, 0, 0, 0, 1);
        squareFreeIs(true, 5, 0, 0, 0, 0, -4, 0, 0, 0, 0, 1);
        squareFreeIs(true, 0, 1, 0, 0, 0, 0, 0, 0, 0, 0, 1);
        squareFreeIs(false, Edges.term(-9999, 10));
    }

    /** "IllegalArgumentException: m isn't 1 .. 1000000". */
    private static void noModulus() {
        for (int m : new int[] {0, -1, 1000001, -1000000, Edges.LEAST, Edges.GREATEST}) {
            Edges.refused("value modulo " + m, Edges.ARGUMENT, Edges::busy, x -> x.value(0, 2, m));
            Edges.refused("value of 0 modulo " + m, Edges.ARGUMENT, Edges::busy, x -> x.value(ZERO, 0, m));
        }
    }

    private static void valueIs(int due, int x, int m, int... coefficients) {
        Edges.unchanged("value at " + x + " modulo " + m, due, busy(coefficients), y -> y.value(PLACE, x, m));
    }

    /** The other side of both bounds. */
    private static void moduliAtTheBounds() {
        valueIs(0, 5, 1, 7, 8, 9);
        valueIs(0, -5, 1, -7, 8, -9);
        valueIs(1, 5, 2, 7, 8, 10);
        valueIs(272, 5, 1000000, 7, 8, 9);
        valueIs(999728, 5, 1000000, -7, -8, -9);
        valueIs(999999, 0, 1000000, -1);
        valueIs(272, 5, 999999, 7, 8, 9);
        valueIs(0, 12345, 1000000, 0);
    }

    /** "0 .. m - 1", also where x or the value is below 0. */
    private static void valuesBelow0() {
        valueIs(9, -1, 10, 0, 1);
        valueIs(1, -1, 10, 0, 0, 1);
        valueIs(0, -10, 10, 0, 1);
        valueIs(4, -3, 7, 0, 1);
        valueIs(3, -3, 7, 0, -1);
        valueIs(0, 1, 7, -7);
        valueIs(6, 0, 7, -1);
    }

    /** "at a whole number x": the least int and the greatest among them, with the greatest coefficients. */
    private static void valuesOfTheLeastAndTheGreatest() {
        int[][] rows = {row(0, 1), row(0, 0, 1), Edges.term(9999, 10), Edges.term(-9999, 10),
            row(9999, -9999, 9999, -9999, 9999, -9999, 9999, -9999, 9999, -9999, 9999),
            row(-9999, -9999, -9999, -9999, -9999, -9999, -9999, -9999, -9999, -9999, -9999)};
        for (int[] row : rows) {
            for (int x : new int[] {Edges.LEAST, Edges.LEAST + 1, -1000001, -1, 0, 999999, Edges.GREATEST}) {
                for (int m : new int[] {1, 2, 999983, 999999, 1000000}) {
                    valueIs(Slow.value(Slow.row(row), x, m), x, m, row);
                }
            }
        }
    }
}
