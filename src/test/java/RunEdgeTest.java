import java.util.function.Supplier;

/**
 * The edges of promises 8 (run), 9 (factor) and 10 (multiplicity). Each method tests the sentence that stands above it.
 */
public final class RunEdgeTest {
    private static final int PLACE = Edges.PLACE;

    /** (x - 1)(5003x^2 + 9999x + 5003), and the same with 10000: the least that is too great. */
    private static final int[] NOT_TOO_GREAT = {-5003, -4996, 4996, 5003};
    private static final int[] TOO_GREAT = {-5003, -4997, 4997, 5003};

    /** Ten lines: those of -4 .. 4, and 2x - 1. */
    private static final int[] TEN_LINES = {0, -576, 1152, 820, -1640, -273, 546, 30, -60, -1, 2};

    public static void main(String[] args) {
        runOf0();
        runOfOneTooGreat();
        runOfOneThatIsJustNot();
        tooGreatWhereverItStands();
        tooGreatBeforeAnythingWasFactored();
        lessNumbersThanItsDegree();
        justAsManyNumbers();
        constantsNeedNone();
        fullObject();
        tooGreatAndTooFewLeft();
        numbersInOrder();
        factorsTakeThePlaceOfWhatWasNotGiven();
        beforeAnythingWasFactored();
        behindTheLastFactor();
        afterAConstant();
        latestAlone();
        greatestMultiplicity();
        Check.end();
    }

    private static Supplier<LiftFactors> busy(int left, int... coefficients) {
        return () -> Edges.with(Edges.busy(left), PLACE, coefficients);
    }

    private static int[] row(int... coefficients) {
        return coefficients;
    }

    private static int[] once(int factors) {
        int[] row = new int[factors];
        java.util.Arrays.fill(row, 1);
        return row;
    }

    /** "-1 if it is 0": what was factored stays, and no number is given. */
    private static void runOf0() {
        Edges.unchanged("run of 0", -1, Edges::busy, x -> x.run(Edges.ZERO));
        Edges.unchanged("run of 0 in a new object", -1, LiftFactors::new, x -> x.run(0));
        Edges.unchanged("run of the last 0", -1, LiftFactors::new, x -> x.run(79));
        Edges.unchanged("run of one that is 0 again", -1,
                () -> Edges.with(busy(40, 5, 1).get(), PLACE, 0, 0), x -> x.run(PLACE));
    }

    /** "-2 if one would be too great (then what was factored stays, and no numbers are given)". */
    private static void runOfOneTooGreat() {
        Edges.unchanged("10000", -2, busy(40, TOO_GREAT), x -> x.run(PLACE));
        Edges.unchanged("-10000", -2, busy(40, 5003, -4997, -4997, 5003), x -> x.run(PLACE));
        Edges.unchanged("10000, a head below 0", -2, busy(40, 5003, 4997, -4997, -5003), x -> x.run(PLACE));
        Edges.unchanged("15000", -2, busy(40, -9001, -5999, 5999, 9001), x -> x.run(PLACE));
    }

    private static void runOfOneThatIsJustNot() {
        Edges.factored("9999", busy(40, NOT_TOO_GREAT), PLACE, once(2), row(-1, 1), row(5003, 9999, 5003));
        Edges.factored("-9999", busy(40, 5003, -4996, -4996, 5003), PLACE, once(2), row(1, 1), row(5003, -9999, 5003));
        Edges.factored("9999 alone", busy(40, -9998, 9999), PLACE, once(1), row(-9998, 9999));
    }

    /** "one" is any of them: the last of two, the first of two, and the one between two others. */
    private static void tooGreatWhereverItStands() {
        Edges.unchanged("the first", -2, busy(40, 5003, 4997, 6, -6, 6, 4997, 5003), x -> x.run(PLACE));
        Edges.unchanged("the last", -2, busy(40, TOO_GREAT), x -> x.run(PLACE));
        Edges.unchanged("the middle one", -2, busy(40, 0, 5003, 4997, 6, -6, 6, 4997, 5003), x -> x.run(PLACE));
        Edges.unchanged("behind one that counts twice", -2,
                busy(40, 0, 0, -5003, -4997, 4997, 5003), x -> x.run(PLACE));
    }

    /** "what was factored stays": nothing, if nothing was. */
    private static void tooGreatBeforeAnythingWasFactored() {
        Edges.unchanged("too great at first", -2,
                () -> Edges.with(new LiftFactors(), 79, TOO_GREAT), x -> x.run(79));
        Edges.unchanged("too great, in the place of the next number", -2,
                () -> Edges.with(new LiftFactors(), 0, TOO_GREAT), x -> x.run(0));
    }

    /** "IllegalStateException: there are less numbers left than its degree", however few its factors are. */
    private static void lessNumbersThanItsDegree() {
        for (int degree = 1; degree <= 10; degree++) {
            Edges.refused("x^" + degree, Edges.STATE, busy(degree - 1, Edges.term(1, degree)), x -> x.run(PLACE));
        }
        Edges.refused("ten lines, nine left", Edges.STATE, busy(9, TEN_LINES), x -> x.run(PLACE));
        Edges.refused("a square, one left", Edges.STATE, busy(1, 1, 2, 1), x -> x.run(PLACE));
        Edges.refused("x^2 + 1, one left", Edges.STATE, busy(1, 1, 0, 1), x -> x.run(PLACE));
    }

    /** The other side of it: as many numbers as its degree are enough. */
    private static void justAsManyNumbers() {
        for (int degree = 1; degree <= 10; degree++) {
            Edges.factored("x^" + degree, busy(degree, Edges.term(1, degree)), PLACE, row(degree), row(0, 1));
        }
        Edges.factored("ten lines, ten left", busy(10, TEN_LINES), PLACE, once(10),
                row(-4, 1), row(-3, 1), row(-2, 1), row(-1, 1), row(0, 1),
                row(1, 1), row(2, 1), row(3, 1), row(4, 1), row(-1, 2));
        Edges.factored("two lines, two left", busy(2, -1, 0, 1), PLACE, once(2), row(-1, 1), row(1, 1));
        Edges.factored("the last number", busy(1, 4, -2), PLACE, once(1), row(-2, 1));
    }

    /** "(0 and constants need none)". */
    private static void constantsNeedNone() {
        for (int v : new int[] {1, -1, 12, 9999, -9999}) {
            Edges.factored("run of " + v + ", full", busy(0, v), PLACE, row());
            Edges.factored("run of " + v + ", one left", busy(1, v), PLACE, row());
        }
        Edges.unchanged("run of 0, full", -1, Edges::full, x -> x.run(Edges.ZERO));
        Edges.unchanged("run of 0, one left", -1, () -> Edges.busy(1), x -> x.run(Edges.ZERO));
    }

    /** A full object refuses every degree above 0, and what was factored stays. */
    private static void fullObject() {
        Edges.refused("run of a line, full", Edges.STATE, Edges::full, x -> x.run(1));
        Edges.refused("run of a cubic, full", Edges.STATE, Edges::full, x -> x.run(0));
        Edges.refused("run of degree 10, full", Edges.STATE, busy(0, TEN_LINES), x -> x.run(PLACE));
    }

    /** IllegalStateException goes before the answer -2. */
    private static void tooGreatAndTooFewLeft() {
        Edges.refused("too great, full", Edges.STATE, busy(0, TOO_GREAT), x -> x.run(PLACE));
        Edges.refused("too great, two left", Edges.STATE, busy(2, TOO_GREAT), x -> x.run(PLACE));
        Edges.unchanged("too great, three left", -2, busy(3, TOO_GREAT), x -> x.run(PLACE));
    }

    /** "each gets the next number, in order: by degrees, then by the coefficient at the highest power" that differs. */
    private static void numbersInOrder() {
        Edges.factored("by degrees", busy(40, 0, 2, 0, 1), PLACE, once(2), row(0, 1), row(2, 0, 1));
        Edges.factored("a great head of a lower degree", busy(40, 3, 2, 3, 2), PLACE, once(2), row(3, 2), row(1, 0, 1));
        Edges.factored("by heads before tails", busy(40, 6, -7, -3), PLACE, once(2), row(3, 1), row(-2, 3));
        Edges.factored("by tails", busy(40, -6, 1, 1), PLACE, once(2), row(-2, 1), row(3, 1));
        Edges.factored("by the middle", busy(40, 1, 0, 1, 0, 1), PLACE, once(2), row(1, -1, 1), row(1, 1, 1));
        Edges.factored("multiplicities don't order", busy(40, 0, -1, 3, -3, 1), PLACE, row(3, 1),
                row(-1, 1), row(0, 1));
    }

    /** A factor's number may be that of the polynomial itself, if that wasn't given. */
    private static void factorsTakeThePlaceOfWhatWasNotGiven() {
        for (int p = 0; p < 2; p++) {
            int place = p;
            Edges.factored("x^2 - 1 at " + p, () -> Edges.with(new LiftFactors(), place, -1, 0, 1), p, once(2),
                    row(-1, 1, 0), row(1, 1, 0));
        }
    }

    /** "no such .. factor" before anything was factored: not by a refused call, nor by the answers -1 and -2. */
    private static void beforeAnythingWasFactored() {
        LiftFactors x = Edges.with(Check.withNumbersLeft(3), PLACE, TOO_GREAT);
        noFactors("before run", x);
        x.set(0, 4, 1);
        Check.fails("run, too few left", Edges.STATE, () -> x.run(0));
        noFactors("after a refused run", x);
        Check.fails("run, no such polynomial", Edges.INDEX, () -> x.run(80));
        noFactors("after a run of none", x);
        Check.same("run of 0", x.run(1), -1);
        noFactors("after a run of 0", x);
        Check.same("run of one too great", x.run(PLACE), -2);
        noFactors("after a run of one too great", x);
    }

    private static void noFactors(String what, LiftFactors x) {
        for (int k : new int[] {-1, 0, 1, Edges.LEAST, Edges.GREATEST}) {
            Check.fails("factor " + k + " " + what, Edges.INDEX, () -> x.factor(k));
            Check.fails("multiplicity " + k + " " + what, Edges.INDEX, () -> x.multiplicity(k));
        }
    }

    /** "no such .. factor" behind the last of two and of ten, and below 0. */
    private static void behindTheLastFactor() {
        for (int k : new int[] {2, 3, 10, 79, -1, Edges.LEAST, Edges.GREATEST}) {
            Edges.refused("factor " + k + " of two", Edges.INDEX, Edges::busy, x -> x.factor(k));
            Edges.refused("multiplicity " + k + " of two", Edges.INDEX, Edges::busy, x -> x.multiplicity(k));
        }
        Edges.unchanged("the last factor of two", 2, Edges::busy, x -> x.factor(1));
        Edges.unchanged("the last multiplicity of two", 2, Edges::busy, x -> x.multiplicity(1));
        LiftFactors x = Edges.with(Edges.busy(10), PLACE, TEN_LINES);
        x.run(PLACE);
        Check.same("the last factor of ten", x.factor(9), 79);
        Check.same("the last multiplicity of ten", x.multiplicity(9), 1);
        Check.fails("factor 10 of ten", Edges.INDEX, () -> x.factor(10));
        Check.fails("multiplicity 10 of ten", Edges.INDEX, () -> x.multiplicity(10));
    }

    /** A constant is factored too, and has no factors. */
    private static void afterAConstant() {
        LiftFactors x = Edges.with(Edges.busy(), PLACE, -6);
        Check.same("two factors before", x.factor(1), 2);
        Check.same("run of a constant", x.run(PLACE), 0);
        noFactors("after a constant", x);
        Check.same("run of 0", x.run(Edges.ZERO), -1);
        noFactors("after a constant and 0", x);
        Check.same("run of a line", x.run(1), 1);
        Check.same("its factor", x.factor(0), 40);
    }

    /** "of the polynomial that was factored latest". */
    private static void latestAlone() {
        LiftFactors x = Edges.with(Edges.busy(), PLACE, 0, 0, 0, 1);
        Check.same("run of x^3", x.run(PLACE), 1);
        Check.same("its factor", x.factor(0), 40);
        Check.same("its multiplicity", x.multiplicity(0), 3);
        Check.fails("the second of the one before", Edges.INDEX, () -> x.factor(1));
        Check.fails("the second multiplicity of the one before", Edges.INDEX, () -> x.multiplicity(1));
        Check.same("run of x^3 - x^2 again", x.run(0), 2);
        Check.same("its factors are new ones", x.factor(0), 41);
        Check.same("and the second", x.factor(1), 42);
        Check.same("its multiplicities", x.multiplicity(0), 1);
        Check.same("and the second", x.multiplicity(1), 2);
    }

    /** "The MULTIPLICITY of one is how often it divides": from 1 to 10; contents and signs don't count. */
    private static void greatestMultiplicity() {
        Edges.factored("(x + 1)^10", busy(10, 1, 10, 45, 120, 210, 252, 210, 120, 45, 10, 1), PLACE, row(10),
                row(1, 1));
        Edges.factored("-9999x^10", busy(10, Edges.term(-9999, 10)), PLACE, row(10), row(0, 1));
        Edges.factored("x^9 (2x - 2)", busy(10, 0, 0, 0, 0, 0, 0, 0, 0, 0, -2, 2), PLACE, row(1, 9),
                row(-1, 1), row(0, 1));
        Edges.factored("(x^5 - 2)^2", busy(10, 4, 0, 0, 0, 0, -4, 0, 0, 0, 0, 1), PLACE, row(2),
                row(-2, 0, 0, 0, 0, 1));
        Edges.factored("4x + 4", busy(10, 4, 4), PLACE, row(1), row(1, 1));
    }
}
