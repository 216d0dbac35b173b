/** Promises 1 (a new object), 2 (poly), 3 (set), 4 (at) and 17 (count). */
public final class NumbersTest {
    private static final Class<?> INDEX = ArrayIndexOutOfBoundsException.class;
    private static final Class<?> STATE = IllegalStateException.class;
    private static final Class<?> ARGUMENT = IllegalArgumentException.class;

    public static void main(String[] args) {
        newObject();
        newObjectsAreApart();
        poly();
        polyClears();
        set();
        setRefuses();
        at();
        count();
        Check.end();
    }

    private static void newObject() {
        LiftFactors x = new LiftFactors();
        Check.same("count at first", x.count(), 0);
        for (int p = 0; p < 80; p++) {
            Check.same("content at first", x.content(p), 0);
        }
        for (int k = 0; k <= 10; k++) {
            Check.same("at first", x.at(79, k), 0);
        }
        Check.fails("factor(0) at first", INDEX, () -> x.factor(0));
        Check.fails("multiplicity(0) at first", INDEX, () -> x.multiplicity(0));
    }

    private static void newObjectsAreApart() {
        LiftFactors x = new LiftFactors();
        x.run(Check.make(x, -1, 0, 1));
        LiftFactors y = new LiftFactors();
        Check.same("another object's count", y.count(), 0);
        Check.same("another object's coefficient", y.at(0, 2), 0);
        Check.fails("another object's factor", INDEX, () -> y.factor(0));
    }

    private static void poly() {
        LiftFactors x = new LiftFactors();
        for (int k = 0; k < 80; k++) {
            Check.same("poly", x.poly(), k);
        }
        Check.fails("poly 81", STATE, () -> x.poly());
        Check.same("count after poly 81", x.count(), 80);
        Check.fails("poly 82", STATE, () -> x.poly());
    }

    private static void polyClears() {
        LiftFactors x = new LiftFactors();
        x.set(0, 0, 5);
        x.set(0, 10, 6);
        x.set(1, 3, 7);
        Check.same("poly over a polynomial in use", x.poly(), 0);
        Check.row("cleared", x, 0);
        Check.row("not cleared yet", x, 1, 0, 0, 0, 7);
    }

    private static void set() {
        LiftFactors x = new LiftFactors();
        Check.yes("set another", x.set(0, 0, 5));
        Check.no("set the same", x.set(0, 0, 5));
        Check.yes("set back to 0", x.set(0, 0, 0));
        Check.no("set 0 to 0", x.set(0, 0, 0));
        Check.yes("the greatest", x.set(79, 10, 9999));
        Check.same("the greatest", x.at(79, 10), 9999);
        Check.yes("the least", x.set(79, 10, -9999));
        Check.same("the least", x.at(79, 10), -9999);
        Check.same("set gives no number", x.count(), 0);
    }

    private static void setRefuses() {
        LiftFactors x = new LiftFactors();
        x.set(3, 4, 17);
        Check.fails("set v 10000", ARGUMENT, () -> x.set(3, 4, 10000));
        Check.fails("set v -10000", ARGUMENT, () -> x.set(3, 4, -10000));
        Check.fails("set v least int", ARGUMENT, () -> x.set(3, 4, Integer.MIN_VALUE));
        Check.fails("set p 80", INDEX, () -> x.set(80, 0, 1));
        Check.fails("set p -1", INDEX, () -> x.set(-1, 0, 1));
        Check.fails("set k 11", INDEX, () -> x.set(3, 11, 1));
        Check.fails("set k -1", INDEX, () -> x.set(3, -1, 1));
        Check.fails("set p and v wrong", INDEX, () -> x.set(80, 0, 10000));
        Check.fails("set k and v wrong", INDEX, () -> x.set(0, 11, 10000));
        Check.row("unchanged", x, 3, 0, 0, 0, 0, 17);
    }

    private static void at() {
        LiftFactors x = new LiftFactors();
        int p = Check.make(x, 1, -2, 3, -4, 5, -6, 7, -8, 9, -10, 11);
        int q = Check.make(x, 12);
        Check.row("at", x, p, 1, -2, 3, -4, 5, -6, 7, -8, 9, -10, 11);
        Check.row("at", x, q, 12);
        Check.fails("at p 80", INDEX, () -> x.at(80, 0));
        Check.fails("at p -1", INDEX, () -> x.at(-1, 0));
        Check.fails("at k 11", INDEX, () -> x.at(0, 11));
        Check.fails("at k -1", INDEX, () -> x.at(0, -1));
        Check.fails("at greatest ints", INDEX, () -> x.at(Integer.MAX_VALUE, Integer.MAX_VALUE));
    }

    private static void count() {
        LiftFactors x = new LiftFactors();
        int a = Check.make(x, -1, 0, 1);
        Check.same("count after poly", x.count(), 1);
        x.times(a, a);
        Check.same("count after times", x.count(), 2);
        x.over(1, a);
        Check.same("count after over", x.count(), 3);
        x.over(a, 1);
        Check.same("count after over that does not divide", x.count(), 3);
        x.gcd(1, 0);
        Check.same("count after gcd", x.count(), 4);
        x.run(1);
        Check.same("count after run", x.count(), 6);
        x.run(79);
        Check.same("count after run of 0", x.count(), 6);
        x.roots(1);
        x.parts(1, 5);
        x.squareFree(1);
        x.value(1, 2, 3);
        Check.same("count after questions", x.count(), 6);
    }
}
