import java.util.function.Supplier;

/**
 * The edges of promises 5 (times), 6 (over) and 7 (gcd). Each method tests the sentence that stands above it.
 *
 * 5003x^2 + 10000x + 5003 and its like serve as what is too great by the least that can be: they are primitive, fall
 * no further apart, and their products with x - 1 or x + 1 are not too great.
 */
public final class ProductEdgeTest {
    private static final int PLACE = Edges.PLACE;
    private static final int OTHER = Edges.OTHER;
    private static final int ZERO = Edges.ZERO;

    public static void main(String[] args) {
        timesWithoutANumber();
        timesWithTheLastNumber();
        timesTooGreatByDegree();
        timesTooGreatByCoefficient();
        timesIsJudgedByTheSumAlone();
        timesOf0();
        overWithoutANumber();
        overWithTheLastNumber();
        overBy0();
        overThatDoesNotDivide();
        overTooGreat();
        overOf0();
        gcdWithoutANumber();
        gcdWithTheLastNumber();
        gcdOf0And0();
        gcdWith0();
        gcdOfConstants();
        gcdWithoutContents();
        gcdTooGreat();
        Check.end();
    }

    /** A busy object with these two at PLACE and OTHER. */
    private static Supplier<LiftFactors> pair(int[] a, int[] b) {
        return pair(40, a, b);
    }

    private static Supplier<LiftFactors> pair(int left, int[] a, int[] b) {
        return () -> Edges.with(Edges.with(Edges.busy(left), PLACE, a), OTHER, b);
    }

    private static int[] row(int... coefficients) {
        return coefficients;
    }

    private static void timesIs(String what, int[] a, int[] b, int... due) {
        Edges.given(what, pair(a, b), x -> x.times(PLACE, OTHER), due);
        Edges.given(what + ", turned round", pair(b, a), x -> x.times(PLACE, OTHER), due);
    }

    private static void timesIsTooGreat(String what, int[] a, int[] b) {
        Edges.refused(what, Edges.ARGUMENT, pair(a, b), x -> x.times(PLACE, OTHER));
        Edges.refused(what + ", turned round", Edges.ARGUMENT, pair(b, a), x -> x.times(PLACE, OTHER));
    }

    /** times: "IllegalStateException: no number is left". */
    private static void timesWithoutANumber() {
        Edges.refused("times, full", Edges.STATE, Edges::full, x -> x.times(0, 1));
        Edges.refused("times of 0, full", Edges.STATE, Edges::full, x -> x.times(ZERO, ZERO));
        Edges.refused("times too great, full", Edges.STATE, pair(0, row(100), row(100)), x -> x.times(PLACE, OTHER));
    }

    private static void timesWithTheLastNumber() {
        Edges.given("the last times", pair(1, row(2, 1), row(-3, 1)), x -> x.times(PLACE, OTHER), -6, -1, 1);
        Edges.refused("times too great, one left", Edges.ARGUMENT,
                pair(1, row(100), row(100)), x -> x.times(PLACE, OTHER));
    }

    /** "TOO GREAT is a polynomial with a degree above 10". */
    private static void timesTooGreatByDegree() {
        for (int k = 0; k <= 10; k++) {
            timesIs("degree 10 by " + k, Edges.term(1, k), Edges.term(-1, 10 - k), Edges.term(-1, 10));
        }
        for (int k = 1; k <= 10; k++) {
            timesIsTooGreat("degree 11 by " + k, Edges.term(1, k), Edges.term(-1, 11 - k));
        }
        timesIsTooGreat("degree 20", Edges.term(1, 10), Edges.term(1, 10));
        timesIsTooGreat("degree 11 with all below it", row(1, 1), row(1, 1, 1, 1, 1, 1, 1, 1, 1, 1, 1));
    }

    /** "or a coefficient that isn't -9999 .. 9999", at the tail, in the middle and at the head. */
    private static void timesTooGreatByCoefficient() {
        timesIs("9999 at the tail", row(99, 1), row(101), 9999, 101);
        timesIs("-9999 at the tail", row(-99, 1), row(101), -9999, 101);
        timesIsTooGreat("10000 at the tail", row(100, 1), row(100));
        timesIsTooGreat("-10000 at the tail", row(-100, 1), row(100));
        timesIs("9999 in the middle", row(101, 101), row(49, 50), 4949, 9999, 5050);
        timesIs("-9999 in the middle", row(101, 101), row(-49, -50), -4949, -9999, -5050);
        timesIsTooGreat("10000 in the middle", row(100, 100), row(49, 51));
        timesIsTooGreat("-10000 in the middle", row(100, 100), row(-49, -51));
        timesIs("9999 at the head", Edges.term(99, 4), Edges.term(101, 6), Edges.term(9999, 10));
        timesIs("-9999 at the head", Edges.term(99, 4), Edges.term(-101, 6), Edges.term(-9999, 10));
        timesIsTooGreat("10000 at the head", Edges.term(100, 4), Edges.term(100, 6));
        timesIsTooGreat("-10000 at the head", Edges.term(-100, 4), Edges.term(100, 6));
        timesIsTooGreat("as great as can be",
                row(9999, 9999, 9999, 9999, 9999, 9999), row(9999, 9999, 9999, 9999, 9999));
    }

    /** "it would be too great": the product itself, not what is summed up on the way to it. */
    private static void timesIsJudgedByTheSumAlone() {
        timesIs("sums that go beyond 9999", row(9999, 9999), row(-1, 1), -9999, 0, 9999);
        timesIs("and far beyond", row(99, -99, 99), row(101, 101), 9999, 0, 0, 9999);
    }

    private static void timesOf0() {
        timesIs("0 times degree 10", row(0), Edges.term(9999, 10));
        Edges.given("0 times 0", Edges::busy, x -> x.times(ZERO, ZERO));
    }

    private static void overIs(String what, int[] a, int[] b, int... due) {
        Edges.given(what, pair(a, b), x -> x.over(PLACE, OTHER), due);
    }

    private static void overIsNone(String what, int[] a, int[] b) {
        Edges.unchanged(what, -1, pair(a, b), x -> x.over(PLACE, OTHER));
    }

    /** over: "IllegalStateException: no number is left", whatever the answer would be. */
    private static void overWithoutANumber() {
        Edges.refused("over, full", Edges.STATE, Edges::full, x -> x.over(0, 1));
        Edges.refused("over of 0, full", Edges.STATE, Edges::full, x -> x.over(ZERO, 1));
        Edges.refused("over by 0, full", Edges.STATE, Edges::full, x -> x.over(0, ZERO));
        Edges.refused("over that doesn't divide, full", Edges.STATE, Edges::full, x -> x.over(1, 0));
    }

    private static void overWithTheLastNumber() {
        Edges.given("the last over", pair(1, row(-6, -1, 1), row(2, 1)), x -> x.over(PLACE, OTHER), -3, 1);
        Edges.refused("over by 0, one left", Edges.DIVISION, () -> Edges.busy(1), x -> x.over(0, ZERO));
        Edges.unchanged("over that doesn't divide, one left", -1, () -> Edges.busy(1), x -> x.over(1, 0));
    }

    /** "ArithmeticException: b is 0", also if a is 0 or a constant, and if b was something else before. */
    private static void overBy0() {
        Edges.refused("over by 0", Edges.DIVISION, Edges::busy, x -> x.over(0, ZERO));
        Edges.refused("0 over 0", Edges.DIVISION, Edges::busy, x -> x.over(ZERO, PLACE));
        Edges.refused("0 over itself", Edges.DIVISION, Edges::busy, x -> x.over(ZERO, ZERO));
        Edges.refused("a constant over 0", Edges.DIVISION, pair(row(7), row(0)), x -> x.over(PLACE, OTHER));
        Edges.refused("over one that is 0 again", Edges.DIVISION,
                () -> Edges.with(pair(row(7), row(1, 1)).get(), OTHER, 0, 0), x -> x.over(PLACE, OTHER));
        overIs("over 1", row(7, 8, 9), row(1), 7, 8, 9);
        overIs("over -1", row(7, 8, 9), row(-1), -7, -8, -9);
    }

    /** "-1 if it doesn't", with whole coefficients, and no number is given. */
    private static void overThatDoesNotDivide() {
        overIsNone("a rest of degree 0", row(0, 0, 1), row(-1, 1));
        overIsNone("a rest at the tail alone", row(-2, 0, 1), row(-1, 1));
        overIsNone("a rest above the tail", row(1, 1, 0, 0, 1), row(1, 0, 1));
        overIsNone("a higher degree below", row(1, 1), row(1, 2, 1));
        overIsNone("a constant over a line", row(5), row(0, 1));
        overIsNone("3x over 2", row(0, 3), row(2));
        overIsNone("4x + 1 over 2", row(1, 4), row(2));
        overIsNone("x^2 - 1 over 2x - 2", row(-1, 0, 1), row(-2, 2));
        overIs("2x^2 - 2 over 2x - 2", row(-2, 0, 2), row(-2, 2), 1, 1);
        overIs("a constant over a constant", row(-9999), row(9), -1111);
        overIsNone("a constant over one above it", row(3), row(9));
        overIsNone("great rests", row(1, 9999, -9999, 9999, 9999, 9999, -9999, 9999, 9999, 9999, 9999), row(9999, 1));
        overIs("itself", row(3, 0, 0, 0, 0, 0, 0, 0, 0, 0, -9999), row(3, 0, 0, 0, 0, 0, 0, 0, 0, 0, -9999), 1);
    }

    /** "or the quotient would be too great". */
    private static void overTooGreat() {
        overIs("9999", row(-5003, -4996, 4996, 5003), row(-1, 1), 5003, 9999, 5003);
        overIsNone("10000", row(-5003, -4997, 4997, 5003), row(-1, 1));
        overIs("-9999", row(5003, 4996, -4996, -5003), row(-1, 1), -5003, -9999, -5003);
        overIsNone("-10000", row(5003, 4997, -4997, -5003), row(-1, 1));
        overIsNone("far too great", row(-9001, -5999, 5999, 9001), row(-1, 1));
        overIs("great, but not the quotient", row(-9999, 0, 9999), row(-9999, 9999), 1, 1);
    }

    /** a that is 0: every b but 0 divides it, and 0 gets a number. */
    private static void overOf0() {
        overIs("0 over a line", row(0), row(-1, 1));
        overIs("0 over a constant", row(0), row(-5));
        overIs("0 over degree 10", row(0), Edges.term(9999, 10));
    }

    private static void gcdIs(String what, int[] a, int[] b, int... due) {
        Edges.given(what, pair(a, b), x -> x.gcd(PLACE, OTHER), due);
        Edges.given(what + ", turned round", pair(b, a), x -> x.gcd(PLACE, OTHER), due);
    }

    private static void gcdIsTooGreat(String what, int[] a, int[] b) {
        Edges.unchanged(what, -1, pair(a, b), x -> x.gcd(PLACE, OTHER));
        Edges.unchanged(what + ", turned round", -1, pair(b, a), x -> x.gcd(PLACE, OTHER));
    }

    /** gcd: "IllegalStateException: no number is left". */
    private static void gcdWithoutANumber() {
        Edges.refused("gcd, full", Edges.STATE, Edges::full, x -> x.gcd(0, 1));
        Edges.refused("gcd of 0 and 0, full", Edges.STATE, Edges::full, x -> x.gcd(ZERO, PLACE));
        Edges.refused("gcd of constants, full", Edges.STATE, pair(0, row(4), row(6)), x -> x.gcd(PLACE, OTHER));
        Edges.refused("gcd too great, full", Edges.STATE,
                pair(0, row(-5003, -4997, 4997, 5003), row(5003, 4997, 6, 4997, 5003)), x -> x.gcd(PLACE, OTHER));
    }

    private static void gcdWithTheLastNumber() {
        Edges.given("the last gcd", pair(1, row(-6, -1, 1), row(4, 2)), x -> x.gcd(PLACE, OTHER), 2, 1);
        Edges.given("the last gcd, of 0 and 0", () -> Edges.busy(1), x -> x.gcd(ZERO, PLACE));
        Edges.unchanged("gcd too great, one left", -1,
                pair(1, row(-5003, -4997, 4997, 5003), row(5003, 4997, 6, 4997, 5003)), x -> x.gcd(PLACE, OTHER));
    }

    /** "that of 0 and 0 is 0, with a number of its own". */
    private static void gcdOf0And0() {
        Edges.given("gcd of 0 and 0", Edges::busy, x -> x.gcd(ZERO, PLACE));
        Edges.given("gcd of 0 and itself", Edges::busy, x -> x.gcd(ZERO, ZERO));
        LiftFactors x = new LiftFactors();
        Check.same("gcd of two that weren't given", x.gcd(78, 79), 0);
        Check.same("and once more", x.gcd(78, 79), 1);
        Check.same("two numbers were given", x.count(), 2);
    }

    /** One of the two is 0: the primitive part of the other. */
    private static void gcdWith0() {
        gcdIs("0 and one of content 6", row(0), row(-6, 12), -1, 2);
        gcdIs("0 and a head below 0", row(0), row(3, 0, -6), -1, 0, 2);
        gcdIs("0 and a constant", row(0), row(7), 1);
        gcdIs("0 and a constant below 0", row(0), row(-9999), 1);
        gcdIs("0 and degree 10", row(0), Edges.term(-9999, 10), Edges.term(1, 10));
    }

    /** Constants: 1 divides both, and no other primitive one does. */
    private static void gcdOfConstants() {
        gcdIs("4 and 6", row(4), row(6), 1);
        gcdIs("-4 and -4", row(-4), row(-4), 1);
        gcdIs("a constant and a line of its content", row(5), row(5, 5), 1);
        gcdIs("nothing in common", row(1, 1), row(2, 1), 1);
    }

    /** "primitive .., made by primitive parts (contents don't count)". */
    private static void gcdWithoutContents() {
        gcdIs("4x and 6x", row(0, 4), row(0, 6), 0, 1);
        gcdIs("heads below 0", row(2, -2), row(3, -3), -1, 1);
        gcdIs("a content on one side", row(-4, 0, 4), row(1, 1), 1, 1);
        gcdIs("a head that both have", row(-2, -1, 6), row(-4, 0, 9), -2, 3);
        gcdIs("itself, with the greatest content", Edges.term(9999, 10), Edges.term(-9999, 10), Edges.term(1, 10));
    }

    /** "-1 if it would be too great", and no number is given. */
    private static void gcdTooGreat() {
        gcdIs("9999", row(-5003, -4996, 4996, 5003), row(5003, 4996, 7, 4996, 5003), 5003, 9999, 5003);
        gcdIsTooGreat("10000", row(-5003, -4997, 4997, 5003), row(5003, 4997, 6, 4997, 5003));
        gcdIs("-9999", row(5003, -4996, -4996, 5003), row(5003, -4996, 7, -4996, 5003), 5003, -9999, 5003);
        gcdIsTooGreat("-10000", row(5003, -4997, -4997, 5003), row(5003, -4997, 6, -4997, 5003));
    }
}
