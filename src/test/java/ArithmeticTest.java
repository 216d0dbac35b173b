/** Promises 5 (times), 6 (over), 7 (gcd), 11 (content) and 16 (value). */
public final class ArithmeticTest {
    private static final Class<?> INDEX = ArrayIndexOutOfBoundsException.class;
    private static final Class<?> STATE = IllegalStateException.class;
    private static final Class<?> ARGUMENT = IllegalArgumentException.class;
    private static final Class<?> DIVISION = ArithmeticException.class;

    public static void main(String[] args) {
        times();
        timesEdges();
        timesOverItself();
        over();
        overEdges();
        gcd();
        gcdEdges();
        noNumberLeft();
        content();
        value();
        Check.end();
    }

    private static void times() {
        LiftFactors x = new LiftFactors();
        int a = Check.make(x, 2, -3, 1);
        int b = Check.make(x, -5, 0, 0, 4);
        int c = x.times(a, b);
        Check.same("times", c, 2);
        Check.row("product", x, c, -10, 15, -5, 8, -12, 4);
        Check.row("left one stays", x, a, 2, -3, 1);
        Check.row("times 0", x, x.times(a, 79));
        Check.row("0 times", x, x.times(79, a));
        Check.fails("times a 80", INDEX, () -> x.times(80, 0));
        Check.fails("times b 80", INDEX, () -> x.times(0, 80));
        Check.fails("times a -1", INDEX, () -> x.times(-1, 0));
        Check.fails("times b -1", INDEX, () -> x.times(0, -1));
    }

    private static void timesEdges() {
        LiftFactors x = new LiftFactors();
        int high = Check.make(x, 0, 0, 0, 0, 0, 0, 1);
        int five = Check.make(x, 0, 0, 0, 0, 1);
        Check.row("degree 10", x, x.times(high, five), 0, 0, 0, 0, 0, 0, 0, 0, 0, 0, 1);
        int over = Check.make(x, 0, 0, 0, 0, 0, 1);
        int before = x.count();
        Check.fails("degree 11", ARGUMENT, () -> x.times(high, over));
        int a = Check.make(x, 101);
        int b = Check.make(x, 99);
        int c = Check.make(x, -99);
        Check.row("9999", x, x.times(a, b), 9999);
        Check.row("-9999", x, x.times(a, c), -9999);
        int d = Check.make(x, 100);
        int e = Check.make(x, -100);
        Check.fails("10000", ARGUMENT, () -> x.times(d, d));
        Check.fails("-10000", ARGUMENT, () -> x.times(d, e));
        Check.same("no number was given", x.count(), before + 7);
        int f = Check.make(x, 1, 9999);
        int g = Check.make(x, 1, -9999);
        Check.fails("too great at the top", ARGUMENT, () -> x.times(f, g));
    }

    private static void timesOverItself() {
        LiftFactors x = new LiftFactors();
        x.set(0, 0, 1);
        x.set(0, 1, 1);
        Check.same("the product takes the place of both", x.times(0, 0), 0);
        Check.row("its square", x, 0, 1, 2, 1);
    }

    private static void over() {
        LiftFactors x = new LiftFactors();
        int a = Check.make(x, -10, 15, -5, 8, -12, 4);
        int b = Check.make(x, 2, -3, 1);
        int q = x.over(a, b);
        Check.same("over", q, 2);
        Check.row("quotient", x, q, -5, 0, 0, 4);
        Check.same("the higher degree below", x.over(b, a), -1);
        Check.same("a rest", x.over(a, Check.make(x, 1, 1)), -1);
        Check.row("0 over", x, x.over(79, b));
        Check.row("over itself", x, x.over(b, b), 1);
        Check.fails("over 0", DIVISION, () -> x.over(a, 79));
        Check.fails("0 over 0", DIVISION, () -> x.over(78, 79));
        Check.fails("over a 80", INDEX, () -> x.over(80, 79));
        Check.fails("over b 80", INDEX, () -> x.over(0, 80));
        Check.fails("over a -1", INDEX, () -> x.over(-1, 79));
        Check.fails("over b -1", INDEX, () -> x.over(0, -1));
    }

    private static void overEdges() {
        LiftFactors x = new LiftFactors();
        int two = Check.make(x, 2);
        Check.same("3x over 2", x.over(Check.make(x, 0, 3), two), -1);
        Check.row("-4x over 2", x, x.over(Check.make(x, 0, -4), two), 0, -2);
        Check.same("x over 2x", x.over(Check.make(x, 0, 1), Check.make(x, 0, 2)), -1);
        Check.row("over a negative head", x, x.over(Check.make(x, 1, 0, -1), Check.make(x, 1, -1)), 1, 1);
        int before = x.count();
        Check.same("a quotient too great", x.over(tooGreatTimes(x, -1, 1), Check.make(x, -1, 1)), -1);
        Check.same("no number is given for it", x.count(), before + 2);
        int wild = Check.make(x, 1, 9999, -9999, 9999, 9999, 9999, -9999, 9999, 9999, 9999, 9999);
        Check.same("a quotient that grows and grows", x.over(wild, Check.make(x, 9999, 1)), -1);
        x.set(x.count(), 1, 6);
        Check.row("the quotient takes a's place", x, x.over(x.count(), two), 0, 3);
    }

    /** 9001x^2 + 15000x + 9001 is too great; its products with these few are not. */
    private static int tooGreatTimes(LiftFactors x, int... other) {
        int[] great = {9001, 15000, 9001};
        int[] product = new int[other.length + 2];
        for (int i = 0; i < other.length; i++) {
            for (int j = 0; j < 3; j++) {
                product[i + j] += other[i] * great[j];
            }
        }
        return Check.make(x, product);
    }

    private static void gcd() {
        LiftFactors x = new LiftFactors();
        int a = Check.make(x, 6, -5, 1);
        int b = Check.make(x, 12, -4);
        int g = x.gcd(a, b);
        Check.same("gcd", g, 2);
        Check.row("the divisor is primitive, its head above 0", x, g, -3, 1);
        int c = Check.make(x, -4, 0, 4);
        int d = Check.make(x, 6, 6);
        Check.row("contents don't count", x, x.gcd(c, d), 1, 1);
        Check.row("nothing in common", x, x.gcd(a, d), 1);
        Check.row("a head of its own", x, x.gcd(Check.make(x, -2, -1, 6), Check.make(x, -4, 0, 9)), -2, 3);
        int e = Check.make(x, 1, 3, 3, 1);
        int f = Check.make(x, 1, 2, 0, -2, -1);
        Check.row("a power", x, x.gcd(e, f), 1, 3, 3, 1);
        Check.fails("gcd a 80", INDEX, () -> x.gcd(80, 0));
        Check.fails("gcd b 80", INDEX, () -> x.gcd(0, 80));
        Check.fails("gcd a -1", INDEX, () -> x.gcd(-1, 0));
        Check.fails("gcd b -1", INDEX, () -> x.gcd(0, -1));
    }

    private static void gcdEdges() {
        LiftFactors x = new LiftFactors();
        int a = Check.make(x, -12, 0, -6);
        Check.row("with 0", x, x.gcd(a, 79), 2, 0, 1);
        Check.row("0 with", x, x.gcd(79, a), 2, 0, 1);
        int seven = Check.make(x, -7);
        Check.row("a constant and 0", x, x.gcd(seven, 79), 1);
        Check.row("two constants", x, x.gcd(seven, seven), 1);
        Check.row("a constant", x, x.gcd(a, seven), 1);
        int before = x.count();
        Check.same("0 and 0 has a number", x.gcd(78, 79), before);
        Check.row("0 and 0", x, before);
        int b = tooGreatTimes(x, -1, 1);
        int c = tooGreatTimes(x, 1, -1, 1);
        before = x.count();
        Check.same("too great", x.gcd(b, c), -1);
        Check.same("no number is given for it", x.count(), before);
        int d = Check.make(x, 9973, 9974, 1);
        int e = Check.make(x, -9973, 9972, 1);
        Check.row("a great root in common", x, x.gcd(d, e), 9973, 1);
        x.set(x.count(), 1, -6);
        Check.row("the divisor takes a's place", x, x.gcd(x.count(), 79), 0, 1);
    }

    private static void noNumberLeft() {
        LiftFactors x = Check.withNumbersLeft(0);
        x.set(0, 10, 9999);
        x.set(1, 1, 1);
        Check.fails("times, none left", STATE, () -> x.times(1, 1));
        Check.fails("times, none left and too great", STATE, () -> x.times(0, 0));
        Check.fails("times, none left and no such", INDEX, () -> x.times(0, 80));
        Check.fails("over, none left", STATE, () -> x.over(0, 1));
        Check.fails("over 0, none left", STATE, () -> x.over(0, 2));
        Check.fails("over, none left and it doesn't divide", STATE, () -> x.over(1, 0));
        Check.fails("over, none left and no such", INDEX, () -> x.over(80, 2));
        Check.fails("gcd, none left", STATE, () -> x.gcd(0, 1));
        Check.fails("gcd, none left and no such", INDEX, () -> x.gcd(0, -1));
        Check.same("count", x.count(), 80);
        LiftFactors y = Check.withNumbersLeft(1);
        y.set(0, 0, 3);
        Check.same("the last number", y.times(0, 0), 79);
        Check.row("the last polynomial", y, 79, 9);
    }

    private static void content() {
        LiftFactors x = new LiftFactors();
        Check.same("content of 0", x.content(79), 0);
        Check.same("content", x.content(Check.make(x, 12, -18, 30)), 6);
        Check.same("content below 0", x.content(Check.make(x, 12, 18, -30)), -6);
        Check.same("content of a primitive one", x.content(Check.make(x, -2, 3)), 1);
        Check.same("content of -x", x.content(Check.make(x, 0, -1)), -1);
        Check.same("content of a constant", x.content(Check.make(x, -9999)), -9999);
        Check.same("content of 9999x^10", x.content(Check.make(x, 0, 0, 0, 0, 0, 0, 0, 0, 0, 0, 9999)), 9999);
        Check.fails("content p 80", INDEX, () -> x.content(80));
        Check.fails("content p -1", INDEX, () -> x.content(-1));
    }

    private static void value() {
        LiftFactors x = new LiftFactors();
        int p = Check.make(x, -7, 0, 3, 0, -1);
        Check.same("value(2)", x.value(p, 2, 1000), 989);
        Check.same("value(0)", x.value(p, 0, 10), 3);
        Check.same("value(-1)", x.value(p, -1, 1000), 995);
        Check.same("modulo 1", x.value(p, 5, 1), 0);
        Check.same("the greatest modulus", x.value(p, 1, 1000000), 999995);
        Check.same("value of 0", x.value(79, 12345, 1000000), 0);
        int q = Check.make(x, 0, 1);
        Check.same("the greatest x", x.value(q, Integer.MAX_VALUE, 1000000), 483647);
        Check.same("the least x", x.value(q, Integer.MIN_VALUE, 1000000), 516352);
        int r = Check.make(x, 9999, 9999, 9999, 9999, 9999, 9999, 9999, 9999, 9999, 9999, 9999);
        Check.same("all coefficients the greatest", x.value(r, -1, 1000000), 9999);
        Check.same("value(999999)", x.value(r, 999999, 1000000), 9999);
        Check.fails("value m 0", ARGUMENT, () -> x.value(p, 1, 0));
        Check.fails("value m -1", ARGUMENT, () -> x.value(p, 1, -1));
        Check.fails("value m 1000001", ARGUMENT, () -> x.value(p, 1, 1000001));
        Check.fails("value p 80", INDEX, () -> x.value(80, 1, 0));
        Check.fails("value p -1", INDEX, () -> x.value(-1, 1, 5));
    }
}
