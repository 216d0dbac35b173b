/** Promises 12 (root) and 13 (roots). */
public final class RootTest {
    private static final Class<?> INDEX = ArrayIndexOutOfBoundsException.class;
    private static final Class<?> ARGUMENT = IllegalArgumentException.class;

    public static void main(String[] args) {
        ordinary();
        edges();
        greatOnes();
        wrongInputs();
        Check.end();
    }

    /** The roots that are due stand as pairs: the part above, the part below. */
    private static void rootsOf(String what, int[] coefficients, int... due) {
        LiftFactors x = new LiftFactors();
        int p = Check.make(x, coefficients);
        Check.same("roots of " + what, x.roots(p), due.length / 2);
        for (int k = 0; 2 * k < due.length; k++) {
            Check.same("root " + k + " above of " + what, x.root(p, k, 0), due[2 * k]);
            Check.same("root " + k + " below of " + what, x.root(p, k, 1), due[2 * k + 1]);
        }
        Check.fails("one root more of " + what, ARGUMENT, () -> x.root(p, due.length / 2, 0));
        Check.row("the polynomial stays", x, p, coefficients);
        Check.same("no number is given", x.count(), 1);
    }

    private static int[] row(int... coefficients) {
        return coefficients;
    }

    private static void ordinary() {
        rootsOf("x^2 - 5x + 6", row(6, -5, 1), 2, 1, 3, 1);
        rootsOf("6x^2 - 5x + 1", row(1, -5, 6), 1, 3, 1, 2);
        rootsOf("6x^2 + x - 1", row(-1, 1, 6), -1, 2, 1, 3);
        rootsOf("x^2 + 1", row(1, 0, 1));
        rootsOf("x^2 - 2", row(-2, 0, 1));
        rootsOf("-4x + 6", row(6, -4), 3, 2);
        rootsOf("4x - 6", row(-6, 4), 3, 2);
        rootsOf("(x^2 + 1)(x + 4)", row(4, 1, 4, 1), -4, 1);
    }

    private static void edges() {
        rootsOf("a constant", row(7));
        rootsOf("x", row(0, 1), 0, 1);
        rootsOf("-9x^10", row(0, 0, 0, 0, 0, 0, 0, 0, 0, 0, -9), 0, 1);
        rootsOf("a root counts once", row(9, -6, 1), 3, 1);
        rootsOf("x^3 (x + 1)^2", row(0, 0, 0, 1, 2, 1), -1, 1, 0, 1);
        rootsOf("x^10 - 1", row(-1, 0, 0, 0, 0, 0, 0, 0, 0, 0, 1), -1, 1, 1, 1);
        rootsOf("nine roots", row(0, 576, 0, -820, 0, 273, 0, -30, 0, 1),
                -4, 1, -3, 1, -2, 1, -1, 1, 0, 1, 1, 1, 2, 1, 3, 1, 4, 1);
        rootsOf("2(x^4 - 5x^2 + 4)", row(8, 0, -10, 0, 2), -2, 1, -1, 1, 1, 1, 2, 1);
    }

    private static void greatOnes() {
        rootsOf("9999x - 9998", row(-9998, 9999), 9998, 9999);
        rootsOf("x + 9999", row(9999, 1), -9999, 1);
        rootsOf("9973x^2 - 9973", row(-9973, 0, 9973), -1, 1, 1, 1);
        rootsOf("x^2 + 9972x - 9973", row(-9973, 9972, 1), -9973, 1, 1, 1);
        rootsOf("(9240x - 1)(x - 1)", row(1, -9241, 9240), 1, 9240, 1, 1);
        rootsOf("(84x - 90)(90x + 83)", row(-7470, -1128, 7560), -83, 90, 15, 14);
        rootsOf("(84x + 1)(90x + 1)", row(1, 174, 7560), -1, 84, -1, 90);
        rootsOf("(x - 84)(x - 90)", row(7560, -174, 1), 84, 1, 90, 1);
        rootsOf("(x + 99)(x - 101)", row(-9999, -2, 1), -99, 1, 101, 1);
        rootsOf("sixty-four divisors at both ends", row(7560, 0, 0, 0, 0, 0, 0, 0, 0, 1, 9240));
    }

    private static void wrongInputs() {
        LiftFactors x = new LiftFactors();
        int p = Check.make(x, 6, -5, 1);
        Check.same("roots of 0", x.roots(79), -1);
        Check.fails("root of 0", ARGUMENT, () -> x.root(79, 0, 0));
        Check.fails("root -1", ARGUMENT, () -> x.root(p, -1, 0));
        Check.fails("root 2", ARGUMENT, () -> x.root(p, 2, 1));
        Check.fails("root greatest int", ARGUMENT, () -> x.root(p, Integer.MAX_VALUE, 1));
        Check.fails("part 2", ARGUMENT, () -> x.root(p, 0, 2));
        Check.fails("part -1", ARGUMENT, () -> x.root(p, 0, -1));
        Check.fails("root p 80", INDEX, () -> x.root(80, 0, 0));
        Check.fails("root p -1", INDEX, () -> x.root(-1, 0, 0));
        Check.fails("root, all wrong", INDEX, () -> x.root(80, -1, 2));
        Check.fails("roots p 80", INDEX, () -> x.roots(80));
        Check.fails("roots p -1", INDEX, () -> x.roots(-1));
    }
}
