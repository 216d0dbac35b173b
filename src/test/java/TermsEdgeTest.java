/**
 * The edges of 'What it is', of 'Terms', and of promises 1 (a new object), 2 (poly), 3 (set), 4 (at) and 17 (count).
 * Each method tests the sentence that stands above it.
 */
public final class TermsEdgeTest {
    private static int heard = 0;

    public static void main(String[] args) {
        usedFor512Calls();
        usedFor512DearCalls();
        numbersFrom0To79();
        numbersBeyondAreNone();
        powersFrom0To10();
        powersBeyondAreNone();
        coefficientsUpTo9999();
        coefficientsBeyondAreRefused();
        allAre0AtFirst();
        degreeOfTheHighestThatIsNot0();
        degreeOf0();
        contentOf0();
        firstBehindThrows();
        nothingWasFactored();
        lastNumber();
        noNumberIsLeft();
        itsPolynomialBecomes0();
        anotherOneNow();
        setChangesOneCoefficient();
        atFindsTheOneThatWasSet();
        countOfANewObject();
        countOfAFullObject();
        countAfterRefusedCalls();
        countAfterAnswersWithoutANumber();
        Check.end();
    }

    private static long heard(long answer) {
        heard++;
        return answer;
    }

    private static long heard(boolean answer) {
        return heard(answer ? 1 : 0);
    }

    /** "An object is used for at most 512 calls after it has been made". */
    private static void usedFor512Calls() {
        LiftFactors x = new LiftFactors();
        heard = 0;
        for (int p = 0; p < 63; p++) {
            Check.same("poly", heard(x.poly()), p);
            Check.same("set", heard(x.set(p, 1, p + 1)), 1);
            Check.same("set again", heard(x.set(p, 1, p + 1)), 0);
            Check.same("at", heard(x.at(p, 1)), p + 1);
            Check.same("content", heard(x.content(p)), p + 1);
            Check.same("roots", heard(x.roots(p)), 1);
            Check.same("root", heard(x.root(p, 0, 1)), 1);
            Check.same("run of 0", heard(x.run(79)), -1);
        }
        Check.same("set, call 505", heard(x.set(62, 0, -63)), 1);
        Check.same("run of 63x - 63", heard(x.run(62)), 1);
        Check.same("its factor", heard(x.factor(0)), 63);
        Check.same("its multiplicity", heard(x.multiplicity(0)), 1);
        Check.same("its tail", heard(x.at(63, 0)), -1);
        Check.same("(63x - 63)(x - 1)", heard(x.times(62, 63)), 64);
        Check.same("has a square", heard(x.squareFree(64)), 0);
        Check.same("count, call 512", heard(x.count()), 65);
        Check.same("calls", heard, 512);
    }

    /** The same with run alone, of (9001x^2 + 15000x + 9001)(x^9 + 1) / (x + 1): it works much and gives no number. */
    private static void usedFor512DearCalls() {
        LiftFactors x = new LiftFactors();
        Edges.with(x, 79, 9001, 5999, 3002, -3002, 3002, -3002, 3002, -3002, 3002, 5999, 9001);
        for (int call = 12; call < 512; call++) {
            Check.same("run, call " + call, x.run(79), -2);
        }
        Check.same("count, call 512", x.count(), 0);
    }

    /** "POLYNOMIALS have numbers, 0 .. 79": the first and the last, which wasn't given, are there for every call. */
    private static void numbersFrom0To79() {
        for (int p : new int[] {0, 79}) {
            LiftFactors x = Check.withNumbersLeft(40);
            Check.yes("set " + p, x.set(p, 1, 6));
            Check.same("at " + p, x.at(p, 1), 6);
            Check.row("times " + p, x, x.times(p, p), 0, 0, 36);
            Check.row("over " + p, x, x.over(p, p), 1);
            Check.row("gcd " + p, x, x.gcd(p, p), 0, 1);
            Check.same("run " + p, x.run(p), 1);
            Check.same("content " + p, x.content(p), 6);
            Check.same("root " + p, x.root(p, 0, 1), 1);
            Check.same("roots " + p, x.roots(p), 1);
            Check.same("parts " + p, x.parts(p, 5), 1);
            Check.yes("squareFree " + p, x.squareFree(p));
            Check.same("value " + p, x.value(p, 2, 100), 12);
        }
    }

    /** "ArrayIndexOutOfBoundsException: no such polynomial", on both sides, in every call that takes a number. */
    private static void numbersBeyondAreNone() {
        for (int p : Edges.NO_POLYNOMIAL) {
            Edges.refused("set " + p, Edges.INDEX, Edges::busy, x -> x.set(p, 0, 1));
            Edges.refused("at " + p, Edges.INDEX, Edges::busy, x -> x.at(p, 0));
            Edges.refused("times, a " + p, Edges.INDEX, Edges::busy, x -> x.times(p, 0));
            Edges.refused("times, b " + p, Edges.INDEX, Edges::busy, x -> x.times(0, p));
            Edges.refused("over, a " + p, Edges.INDEX, Edges::busy, x -> x.over(p, 0));
            Edges.refused("over, b " + p, Edges.INDEX, Edges::busy, x -> x.over(0, p));
            Edges.refused("gcd, a " + p, Edges.INDEX, Edges::busy, x -> x.gcd(p, 0));
            Edges.refused("gcd, b " + p, Edges.INDEX, Edges::busy, x -> x.gcd(0, p));
            Edges.refused("run " + p, Edges.INDEX, Edges::busy, x -> x.run(p));
            Edges.refused("content " + p, Edges.INDEX, Edges::busy, x -> x.content(p));
            Edges.refused("root " + p, Edges.INDEX, Edges::busy, x -> x.root(p, 0, 0));
            Edges.refused("roots " + p, Edges.INDEX, Edges::busy, x -> x.roots(p));
            Edges.refused("parts " + p, Edges.INDEX, Edges::busy, x -> x.parts(p, 5));
            Edges.refused("squareFree " + p, Edges.INDEX, Edges::busy, x -> x.squareFree(p));
            Edges.refused("value " + p, Edges.INDEX, Edges::busy, x -> x.value(p, 1, 5));
        }
    }

    /** "at the powers 0 .. 10". */
    private static void powersFrom0To10() {
        LiftFactors x = new LiftFactors();
        for (int k = 0; k <= 10; k++) {
            Check.yes("set at the power " + k, x.set(5, k, 100 + k));
        }
        for (int k = 0; k <= 10; k++) {
            Check.same("at the power " + k, x.at(5, k), 100 + k);
        }
    }

    /** "ArrayIndexOutOfBoundsException: no such polynomial, power", on both sides of 0 and of 10. */
    private static void powersBeyondAreNone() {
        for (int k : new int[] {-1, 11, Edges.LEAST, Edges.GREATEST}) {
            Edges.refused("set at the power " + k, Edges.INDEX, Edges::busy, x -> x.set(0, k, 1));
            Edges.refused("at the power " + k, Edges.INDEX, Edges::busy, x -> x.at(0, k));
        }
    }

    /** "coefficients -9999 .. 9999", at the first power and the last. */
    private static void coefficientsUpTo9999() {
        for (int k : new int[] {0, 10}) {
            for (int v : new int[] {9999, -9999}) {
                LiftFactors x = new LiftFactors();
                Check.yes("set to " + v, x.set(79, k, v));
                Check.same("at " + k, x.at(79, k), v);
            }
        }
    }

    /** "IllegalArgumentException: v isn't -9999 .. 9999", and the coefficient stays. */
    private static void coefficientsBeyondAreRefused() {
        for (int v : new int[] {10000, -10000, Edges.LEAST, Edges.GREATEST}) {
            Edges.refused("set to " + v, Edges.ARGUMENT, Edges::busy, x -> x.set(0, 3, v));
            Edges.refused("set at the power 10 to " + v, Edges.ARGUMENT, Edges::busy, x -> x.set(79, 10, v));
        }
    }

    /** "all are 0 at first": all eighty times eleven, on two objects, that none hears more than 512 calls. */
    private static void allAre0AtFirst() {
        LiftFactors lower = new LiftFactors();
        LiftFactors upper = new LiftFactors();
        for (int p = 0; p < 40; p++) {
            Check.row("polynomial " + p + " at first", lower, p);
            Check.row("polynomial " + (40 + p) + " at first", upper, 40 + p);
        }
    }

    /** "The DEGREE is the highest power that has a coefficient other than 0": one that was set back counts no more. */
    private static void degreeOfTheHighestThatIsNot0() {
        LiftFactors x = Edges.with(Edges.busy(1), Edges.PLACE, 7, 1);
        x.set(Edges.PLACE, 10, 7);
        Check.same("the head 7 is 0 modulo 7", x.parts(Edges.PLACE, 7), -1);
        Check.fails("degree 10, one number left", Edges.STATE, () -> x.run(Edges.PLACE));
        x.set(Edges.PLACE, 10, 0);
        Check.same("the head 1 is not", x.parts(Edges.PLACE, 7), 1);
        Check.same("degree 1, one number left", x.run(Edges.PLACE), 1);
    }

    /** "(-1 of 0)": it needs no number, not even of a full object, and is none of the constants. */
    private static void degreeOf0() {
        Edges.unchanged("run of 0", -1, Edges::full, x -> x.run(Edges.ZERO));
        LiftFactors x = new LiftFactors();
        x.set(4, 0, 1);
        Check.same("roots of 1", x.roots(4), 0);
        x.set(4, 0, 0);
        Check.same("roots of 0", x.roots(4), -1);
    }

    /** "The CONTENT of a polynomial that isn't 0 is the whole number that ..; of 0 it is 0." */
    private static void contentOf0() {
        LiftFactors x = new LiftFactors();
        Check.same("content of a 0 that wasn't given", x.content(79), 0);
        Check.same("content of a 0 that was", x.content(x.poly()), 0);
        x.set(0, 10, 5);
        x.set(0, 10, 0);
        Check.same("content of one that is 0 again", x.content(0), 0);
    }

    /** "Of several the one that stands first behind "throws" is thrown; nothing changes." */
    private static void firstBehindThrows() {
        for (int p : Edges.NO_POLYNOMIAL) {
            Edges.refused("set, p and v", Edges.INDEX, Edges::busy, x -> x.set(p, 0, 10000));
            Edges.refused("times, a and full", Edges.INDEX, Edges::full, x -> x.times(p, 0));
            Edges.refused("times, b and full", Edges.INDEX, Edges::full, x -> x.times(0, p));
            Edges.refused("over, a and b is 0", Edges.INDEX, Edges::busy, x -> x.over(p, Edges.ZERO));
            Edges.refused("over, a and full and b is 0", Edges.INDEX, Edges::full, x -> x.over(p, Edges.ZERO));
            Edges.refused("over, b and full", Edges.INDEX, Edges::full, x -> x.over(0, p));
            Edges.refused("gcd, a and full", Edges.INDEX, Edges::full, x -> x.gcd(p, 0));
            Edges.refused("gcd, b and full", Edges.INDEX, Edges::full, x -> x.gcd(0, p));
            Edges.refused("run, p and full", Edges.INDEX, Edges::full, x -> x.run(p));
            Edges.refused("root, p and k", Edges.INDEX, Edges::busy, x -> x.root(p, -1, 0));
            Edges.refused("root, p and part", Edges.INDEX, Edges::busy, x -> x.root(p, 0, 2));
            Edges.refused("parts, p and prime", Edges.INDEX, Edges::busy, x -> x.parts(p, 4));
            Edges.refused("value, p and m", Edges.INDEX, Edges::busy, x -> x.value(p, 1, 0));
        }
        Edges.refused("set, k and v", Edges.INDEX, Edges::busy, x -> x.set(0, 11, 10000));
        Edges.refused("set, k below 0 and v", Edges.INDEX, Edges::busy, x -> x.set(0, -1, -10000));
        Edges.refused("times, full and too great", Edges.STATE,
                () -> Edges.with(Edges.full(), Edges.PLACE, 9999), x -> x.times(Edges.PLACE, Edges.PLACE));
        Edges.refused("over, full and b is 0", Edges.STATE, Edges::full, x -> x.over(0, Edges.ZERO));
    }

    /** "nothing was factored" in a new object, whatever another has factored. */
    private static void nothingWasFactored() {
        Edges.busy();
        for (int k : new int[] {0, 1, 9, 10, -1, Edges.LEAST, Edges.GREATEST}) {
            Edges.refused("factor " + k, Edges.INDEX, LiftFactors::new, x -> x.factor(k));
            Edges.refused("multiplicity " + k, Edges.INDEX, LiftFactors::new, x -> x.multiplicity(k));
        }
    }

    /** "The next number", up to the last one, 79. */
    private static void lastNumber() {
        LiftFactors x = new LiftFactors();
        for (int p = 0; p < 80; p++) {
            Check.same("poly", x.poly(), p);
        }
        Check.yes("the last can be set", x.set(79, 10, 1));
        Edges.given("the last poly", () -> Edges.busy(1), y -> y.poly());
    }

    /** "IllegalStateException: no number is left". */
    private static void noNumberIsLeft() {
        Edges.refused("poly, none left", Edges.STATE, Edges::full, x -> x.poly());
        LiftFactors x = Edges.busy(1);
        x.poly();
        Check.fails("poly after the last", Edges.STATE, () -> x.poly());
        Check.fails("and once more", Edges.STATE, () -> x.poly());
    }

    /** "its polynomial becomes 0", whatever was set before it was given; the one behind it stays. */
    private static void itsPolynomialBecomes0() {
        LiftFactors x = new LiftFactors();
        for (int k = 0; k <= 10; k++) {
            x.set(0, k, k + 1);
            x.set(1, k, -k - 1);
        }
        Check.same("poly", x.poly(), 0);
        Check.row("becomes 0", x, 0);
        Check.row("stays", x, 1, -1, -2, -3, -4, -5, -6, -7, -8, -9, -10, -11);
        Edges.given("a poly that was set", Edges::busy, y -> y.poly());
    }

    /** "whether it is another one now": not if it is the same as before. */
    private static void anotherOneNow() {
        LiftFactors x = new LiftFactors();
        Check.no("0 to 0", x.set(0, 0, 0));
        Check.yes("0 to 5", x.set(0, 0, 5));
        Check.no("5 to 5", x.set(0, 0, 5));
        Check.yes("5 to -5", x.set(0, 0, -5));
        Check.yes("-5 to 9999", x.set(0, 0, 9999));
        Check.no("9999 to 9999", x.set(0, 0, 9999));
        Check.yes("9999 to -9999", x.set(0, 0, -9999));
        Check.no("-9999 to -9999", x.set(0, 0, -9999));
        Check.yes("-9999 to 0", x.set(0, 0, 0));
        Check.no("0 to 0 again", x.set(0, 0, 0));
        Edges.unchanged("set to the same", 0, Edges::busy, y -> y.set(0, 3, 1) ? 1 : 0);
    }

    /** "A coefficient": its neighbours, at other powers and of other polynomials, stay. */
    private static void setChangesOneCoefficient() {
        for (int p : new int[] {0, 1, 78, 79}) {
            for (int k : new int[] {0, 10}) {
                LiftFactors x = new LiftFactors();
                x.set(p, k, 3);
                for (int q : new int[] {0, 1, 2, 77, 78, 79}) {
                    Check.row("polynomial " + q, x, q, q == p ? Edges.term(3, k) : new int[0]);
                }
            }
        }
    }

    /** "A coefficient", of the first polynomial and the last, at the first power and the last. */
    private static void atFindsTheOneThatWasSet() {
        LiftFactors x = new LiftFactors();
        x.set(0, 0, 1);
        x.set(0, 10, 2);
        x.set(79, 0, 3);
        x.set(79, 10, 4);
        Check.same("at(0, 0)", x.at(0, 0), 1);
        Check.same("at(0, 10)", x.at(0, 10), 2);
        Check.same("at(79, 0)", x.at(79, 0), 3);
        Check.same("at(79, 10)", x.at(79, 10), 4);
        Edges.unchanged("at", 1, Edges::busy, y -> y.at(0, 3));
    }

    /** "How many numbers were given": none yet, even if a polynomial was set. */
    private static void countOfANewObject() {
        LiftFactors x = new LiftFactors();
        Check.same("count at first", x.count(), 0);
        x.set(79, 0, 1);
        Check.same("count after set", x.count(), 0);
    }

    /** "How many numbers were given": all eighty, after each of the calls that can give the last one. */
    private static void countOfAFullObject() {
        LiftFactors a = Edges.busy(1);
        Check.same("one left", a.count(), 79);
        a.poly();
        Check.same("full by poly", a.count(), 80);
        LiftFactors b = Edges.busy(1);
        b.times(1, 1);
        Check.same("full by times", b.count(), 80);
        LiftFactors c = Edges.busy(1);
        c.over(0, 1);
        Check.same("full by over", c.count(), 80);
        LiftFactors d = Edges.busy(1);
        d.gcd(0, 1);
        Check.same("full by gcd", d.count(), 80);
        LiftFactors e = Edges.busy(1);
        e.run(1);
        Check.same("full by run", e.count(), 80);
    }

    /** "nothing changes": a refused call gives no number. */
    private static void countAfterRefusedCalls() {
        LiftFactors x = Edges.with(Edges.busy(1), Edges.PLACE, 0, 0, 9999);
        Check.fails("set", Edges.ARGUMENT, () -> x.set(0, 0, 10000));
        Check.same("count after set", x.count(), 79);
        Check.fails("times", Edges.ARGUMENT, () -> x.times(Edges.PLACE, Edges.PLACE));
        Check.same("count after times", x.count(), 79);
        Check.fails("over", Edges.DIVISION, () -> x.over(0, Edges.ZERO));
        Check.same("count after over", x.count(), 79);
        Check.fails("gcd", Edges.INDEX, () -> x.gcd(0, 80));
        Check.same("count after gcd", x.count(), 79);
        Check.fails("run", Edges.STATE, () -> x.run(Edges.PLACE));
        Check.same("count after run", x.count(), 79);
        x.poly();
        Check.fails("poly", Edges.STATE, () -> x.poly());
        Check.same("count after poly", x.count(), 80);
    }

    /** "How many numbers were given": none by the answers -1, -2 and 0. */
    private static void countAfterAnswersWithoutANumber() {
        LiftFactors x = Edges.with(Edges.busy(3), Edges.PLACE, -9001, -5999, 5999, 9001);
        Check.same("over", x.over(1, 0), -1);
        Check.same("count after over", x.count(), 77);
        Check.same("run of 0", x.run(Edges.ZERO), -1);
        Check.same("count after run of 0", x.count(), 77);
        Check.same("run of one too great", x.run(Edges.PLACE), -2);
        Check.same("count after run of one too great", x.count(), 77);
        x.set(Edges.OTHER, 0, 8);
        Check.same("run of a constant", x.run(Edges.OTHER), 0);
        Check.same("count after run of a constant", x.count(), 77);
    }
}
