/** Promises 8 (run), 9 (factor), 10 (multiplicity) and 15 (squareFree). */
public final class FactorTest {
    private static final Class<?> INDEX = ArrayIndexOutOfBoundsException.class;
    private static final Class<?> STATE = IllegalStateException.class;

    public static void main(String[] args) {
        run();
        order();
        constantsAndZero();
        tooGreat();
        numbersLeft();
        factorsOverThePolynomial();
        hardOnes();
        primesThatAreUnfit();
        severalPrimesThatAreUnfit();
        valuesThatGoRoundALong();
        factorAndMultiplicity();
        latestOnly();
        squareFree();
        Check.end();
    }

    private static void run() {
        LiftFactors x = new LiftFactors();
        int p = Check.make(x, 0, 0, 0, -6, 0, 4);
        Check.same("run", x.run(p), 2);
        Check.same("factor 0", x.factor(0), 1);
        Check.row("factor 0", x, 1, 0, 1);
        Check.same("multiplicity 0", x.multiplicity(0), 3);
        Check.same("factor 1", x.factor(1), 2);
        Check.row("factor 1", x, 2, -3, 0, 2);
        Check.same("multiplicity 1", x.multiplicity(1), 1);
        Check.row("the polynomial stays", x, p, 0, 0, 0, -6, 0, 4);
        Check.same("count", x.count(), 3);
        Check.same("a head below 0", x.run(Check.make(x, 3, -1)), 1);
        Check.row("its factor", x, x.factor(0), -3, 1);
        Check.fails("run p 80", INDEX, () -> x.run(80));
        Check.fails("run p -1", INDEX, () -> x.run(-1));
    }

    private static void order() {
        LiftFactors x = new LiftFactors();
        Check.same("x^10 - 1", x.run(Check.make(x, -1, 0, 0, 0, 0, 0, 0, 0, 0, 0, 1)), 4);
        Check.row("x - 1", x, 1, -1, 1);
        Check.row("x + 1", x, 2, 1, 1);
        Check.row("by the power 3", x, 3, 1, -1, 1, -1, 1);
        Check.row("by the power 3", x, 4, 1, 1, 1, 1, 1);
        LiftFactors y = new LiftFactors();
        int p = Check.make(y, 5, 1);
        p = y.times(p, Check.make(y, -5, 2));
        p = y.times(p, Check.make(y, 0, 1));
        p = y.times(p, Check.make(y, -1, 2));
        p = y.times(p, Check.make(y, 1, 1, 1));
        int before = y.count();
        Check.same("heads and tails", y.run(p), 5);
        Check.row("least head, then tail", y, before, 0, 1);
        Check.row("the greater tail", y, before + 1, 5, 1);
        Check.row("the greater head, the lesser tail", y, before + 2, -5, 2);
        Check.row("the greater head and tail", y, before + 3, -1, 2);
        Check.row("the greater degree", y, before + 4, 1, 1, 1);
    }

    private static void constantsAndZero() {
        LiftFactors x = new LiftFactors();
        x.run(Check.make(x, -1, 0, 1));
        int before = x.count();
        Check.same("run of 0", x.run(79), -1);
        Check.same("what was factored stays", x.factor(1), 2);
        Check.same("no number is given", x.count(), before);
        Check.same("run of a constant", x.run(Check.make(x, -12)), 0);
        Check.same("no number is given but its own", x.count(), before + 1);
        Check.fails("a constant has no factor", INDEX, () -> x.factor(0));
        Check.fails("nor a multiplicity", INDEX, () -> x.multiplicity(0));
    }

    private static void tooGreat() {
        LiftFactors x = new LiftFactors();
        x.run(Check.make(x, -1, 0, 1));
        int p = Check.make(x, -9001, -5999, 5999, 9001);
        int q = Check.make(x, 9001, 5999, 3002, 5999, 9001);
        int before = x.count();
        Check.same("(x - 1)(9001x^2 + 15000x + 9001)", x.run(p), -2);
        Check.same("(x^2 - x + 1)(9001x^2 + 15000x + 9001)", x.run(q), -2);
        int r = Check.make(x, 9001, 5999, 3002, -3002, 3002, 5999, 9001);
        before++;
        Check.same("(9001x^2 + 15000x + 9001)(x^4 - x^3 + x^2 - x + 1)", x.run(r), -2);
        Check.same("no number is given", x.count(), before);
        Check.same("what was factored stays", x.factor(1), 2);
        Check.same("its multiplicity too", x.multiplicity(1), 1);
        Check.row("and the next polynomial", x, before);
    }

    private static void numbersLeft() {
        LiftFactors x = Check.withNumbersLeft(3);
        x.set(0, 4, 1);
        x.set(1, 0, -1);
        x.set(1, 3, 1);
        x.set(2, 0, 5);
        Check.fails("degree 4, three left", STATE, () -> x.run(0));
        Check.same("nothing changes", x.count(), 77);
        Check.fails("nothing was factored", INDEX, () -> x.factor(0));
        Check.same("degree 3, three left", x.run(1), 2);
        Check.same("one left", x.count(), 79);
        Check.fails("degree 3, one left", STATE, () -> x.run(1));
        Check.same("the former factor", x.factor(1), 78);
        x.set(3, 1, 2);
        Check.same("degree 1, one left", x.run(3), 1);
        Check.fails("degree 1, none left", STATE, () -> x.run(3));
        Check.same("0, none left", x.run(4), -1);
        Check.same("it stays", x.factor(0), 79);
        Check.same("a constant, none left", x.run(2), 0);
        LiftFactors y = Check.withNumbersLeft(2);
        int[] great = {-9001, -5999, 5999, 9001};
        for (int k = 0; k < 4; k++) {
            y.set(0, k, great[k]);
        }
        Check.fails("too great, and too few left", STATE, () -> y.run(0));
    }

    private static void factorsOverThePolynomial() {
        LiftFactors x = new LiftFactors();
        x.set(0, 0, -4);
        x.set(0, 2, 4);
        x.set(1, 0, 7);
        Check.same("factors take the place of the polynomial", x.run(0), 2);
        Check.row("factor 0", x, 0, -1, 1);
        Check.row("factor 1", x, 1, 1, 1);
    }

    private static void irreducible(String what, int... coefficients) {
        LiftFactors x = new LiftFactors();
        int p = Check.make(x, coefficients);
        Check.same(what, x.run(p), 1);
        Check.row(what, x, x.factor(0), coefficients);
        Check.same(what, x.multiplicity(0), 1);
    }

    private static void hardOnes() {
        irreducible("x^4 + 1", 1, 0, 0, 0, 1);
        irreducible("x^8 + 1", 1, 0, 0, 0, 0, 0, 0, 0, 1);
        irreducible("x^4 - 10x^2 + 1", 1, 0, -10, 0, 1);
        irreducible("quadratic at every prime", 576, 0, -960, 0, 352, 0, -40, 0, 1);
        irreducible("the eleventh roots", 1, 1, 1, 1, 1, 1, 1, 1, 1, 1, 1);
        irreducible("great ends", 9998, 0, 0, 0, 0, 0, 0, 0, 0, 0, 9999);
        irreducible("all great", 9999, -9998, 9999, -9998, 9999, -9998, 9999, -9998, 9999, -9998, 9998);
        LiftFactors x = new LiftFactors();
        Check.same("4x^4 + 1", x.run(Check.make(x, 1, 0, 0, 0, 4)), 2);
        Check.row("4x^4 + 1", x, 1, 1, -2, 2);
        Check.row("4x^4 + 1", x, 2, 1, 2, 2);
        int p = Check.make(x, 1, 0, -10, 0, 1);
        int q = x.times(p, Check.make(x, 9, 0, -14, 0, 1));
        int before = x.count();
        Check.same("two of four roots each", x.run(q), 2);
        Check.row("two of four roots each", x, before, 9, 0, -14, 0, 1);
        Check.row("two of four roots each", x, before + 1, 1, 0, -10, 0, 1);
        LiftFactors y = new LiftFactors();
        p = Check.make(y, 0, 4, 0, -5, 0, 1);
        p = y.times(p, Check.make(y, 9, 0, -1));
        p = y.times(p, Check.make(y, -6, 1, 2));
        before = y.count();
        Check.same("nine roots, one of them twice", y.run(p), 8);
        int[] heads = {1, 1, 1, 1, 1, 1, 1, 2};
        int[] tails = {-3, -2, -1, 0, 1, 2, 3, -3};
        for (int k = 0; k < 8; k++) {
            Check.row("root " + k, y, before + k, tails[k], heads[k]);
            Check.same("root " + k, y.multiplicity(k), tails[k] == 2 ? 2 : 1);
        }
    }

    /** The discriminants of these are the sixteen primes above 2^24, or below 0: each has a root twice by one. */
    private static final int[][] UNFIT = {
        {9059, 3, 463}, {-4594, 1, 913}, {3011, 1, 1393}, {9777, 1, 429},
        {-9777, 1, 429}, {-7571, 1, 554}, {-9777, 7, 429}, {-4241, 5, 989},
        {-8595, 1, 488}, {9158, 3, 458}, {-9869, 13, 425}, {6711, 1, 625},
        {3931, 1, 1067}, {4849, 3, 865}, {7959, 1, 527}, {-7654, 3, 548},
    };

    /** Work modulo any of these primes, as the program may do it, must not mislead it. */
    private static void primesThatAreUnfit() {
        for (int[] row : UNFIT) {
            LiftFactors x = new LiftFactors();
            int near = Check.make(x, -4096, 1);
            irreducible("a double root modulo a prime", row);
            Check.yes("a double root modulo a prime", x.squareFree(Check.make(x, row)));
            int prime = Math.abs(row[1] * row[1] - 4 * row[0] * row[2]);
            int other = Check.make(x, prime - (1 << 24), 4096);
            Check.row("a root in common modulo a prime", x, x.gcd(near, other), 1);
            Check.row("a root in common modulo a prime", x, x.gcd(other, near), 1);
        }
        LiftFactors x = new LiftFactors();
        int a = Check.make(x, 29, 4129, 4100);
        int b = Check.make(x, 4100, 5229, 1129);
        Check.row("one root in common, another modulo 16777259", x, x.gcd(a, b), 1, 1);
        int c = Check.make(x, -7, -4093, 4100);
        int d = Check.make(x, -4100, -573, 4673);
        Check.row("one root in common, another modulo 16777289", x, x.gcd(c, d), -1, 1);
    }

    /** Roots in common, or twice, modulo several of these primes at once, from the least on. */
    private static void severalPrimesThatAreUnfit() {
        LiftFactors x = new LiftFactors();
        int a = Check.make(x, 4655, -3452, -1067, -73, 4789, -438, -1095, 2949, -1048, 526, 414);
        int b = Check.make(x, 3437, 1266, -210, -1163, -5039, -1915, -2872, -1441, 3194, 2524, -627);
        Check.row("a root in common modulo six primes", x, x.gcd(a, b), 1);
        int c = Check.make(x, 1392, 46, 2694, 513, -151, -20, -4036, -553, -3581, 714, 132);
        int d = Check.make(x, 2000, 378, 3478, 1765, -125, 2697, -131, 386, 1860, -1446, 243);
        Check.row("3x^2 + 2, and a root in common modulo four primes", x, x.gcd(c, d), 2, 0, 3);
        int[] single = {-4179, 493, 5484, 7404, 5034, -1481, 4647, 2545, -4018, -1215, 8};
        irreducible("a double root modulo three primes", single);
        Check.yes("a double root modulo three primes", x.squareFree(Check.make(x, single)));
        int e = Check.make(x, -669, 1532, -1244, 1315, -2100, 1331, 1154, -2339, 844, 307, -131);
        Check.no("(x - 1)^2, and a double root modulo two primes", x.squareFree(e));
        int before = x.count();
        Check.same("(x - 1)^2, and a double root modulo two primes", x.run(e), 2);
        Check.row("x - 1", x, before, -1, 1);
        Check.same("x - 1", x.multiplicity(0), 2);
        Check.row("the other", x, before + 1, 669, -194, 187, -747, 419, 254, -1065, -45, 131);
        Check.same("the other", x.multiplicity(1), 1);
    }

    /** At -9999 this one isn't 0, but 0 modulo 2^64 and modulo 16777259: a long that goes round must not mislead. */
    private static void valuesThatGoRoundALong() {
        int[] round = {-9999, -55, -65, 81, -135, -311, 210, -37, -48, 28, 59};
        irreducible("0 modulo 2^64", round);
        LiftFactors x = new LiftFactors();
        int p = Check.make(x, round);
        int line = Check.make(x, 9999, 1);
        Check.row("0 modulo 2^64", x, x.gcd(p, line), 1);
        Check.same("0 modulo 2^64", x.over(p, line), -1);
        Check.same("0 modulo 2^64", x.roots(p), 0);
    }

    private static void factorAndMultiplicity() {
        LiftFactors x = new LiftFactors();
        int a = Check.make(x, -1, 1);
        int b = Check.make(x, 1, 0, 1);
        int p = x.times(x.times(a, a), x.times(x.times(b, b), b));
        int before = x.count();
        Check.same("run", x.run(p), 2);
        Check.same("factor 0", x.factor(0), before);
        Check.same("factor 1", x.factor(1), before + 1);
        Check.same("multiplicity 0", x.multiplicity(0), 2);
        Check.same("multiplicity 1", x.multiplicity(1), 3);
        x.set(before, 5, 77);
        Check.same("a factor keeps its number", x.factor(0), before);
        Check.same("and its multiplicity", x.multiplicity(0), 2);
        Check.fails("factor 2", INDEX, () -> x.factor(2));
        Check.fails("factor -1", INDEX, () -> x.factor(-1));
        Check.fails("factor greatest int", INDEX, () -> x.factor(Integer.MAX_VALUE));
        Check.fails("multiplicity 2", INDEX, () -> x.multiplicity(2));
        Check.fails("multiplicity -1", INDEX, () -> x.multiplicity(-1));
        LiftFactors y = new LiftFactors();
        int q = Check.make(y, 1, 5, 10, 10, 5, 1);
        Check.same("(x + 1)^10", y.run(y.times(q, q)), 1);
        Check.same("ten times", y.multiplicity(0), 10);
    }

    private static void latestOnly() {
        LiftFactors x = new LiftFactors();
        x.run(Check.make(x, 0, -1, 0, 1));
        Check.same("three factors", x.factor(2), 3);
        x.run(Check.make(x, 0, 0, 1));
        Check.same("of the latest", x.factor(0), 5);
        Check.same("of the latest", x.multiplicity(0), 2);
        Check.fails("not of the one before", INDEX, () -> x.factor(1));
    }

    private static void squareFree() {
        LiftFactors x = new LiftFactors();
        Check.no("0", x.squareFree(79));
        Check.yes("a constant", x.squareFree(Check.make(x, 4)));
        Check.yes("a constant below 0", x.squareFree(Check.make(x, -9)));
        Check.yes("4x", x.squareFree(Check.make(x, 0, 4)));
        Check.no("x^2", x.squareFree(Check.make(x, 0, 0, 1)));
        Check.yes("x^10 + 1", x.squareFree(Check.make(x, 1, 0, 0, 0, 0, 0, 0, 0, 0, 0, 1)));
        Check.no("-(2x - 1)^2", x.squareFree(Check.make(x, -1, 4, -4)));
        int p = Check.make(x, 1, 0, 1);
        int q = x.times(x.times(p, p), Check.make(x, -3, 1));
        Check.no("(x^2 + 1)^2 (x - 3)", x.squareFree(q));
        Check.yes("9x^2 - 9", x.squareFree(Check.make(x, -9, 0, 9)));
        Check.yes("great ones", x.squareFree(Check.make(x, 9999, 9998, 9997, 0, 0, 0, 0, 0, 0, 0, -9999)));
        int high = Check.make(x, 5, 0, 0, 0, 0, 0, 0, 0, 0, 0, 7);
        int square = Check.make(x, 1, -2, 1);
        x.gcd(square, high);
        Check.no("(x - 1)^2, after work on a high degree", x.squareFree(square));
        Check.fails("squareFree p 80", INDEX, () -> x.squareFree(80));
        Check.fails("squareFree p -1", INDEX, () -> x.squareFree(-1));
    }
}
