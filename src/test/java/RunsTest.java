import java.math.BigInteger;
import java.util.ArrayDeque;
import java.util.ArrayList;
import java.util.Deque;
import java.util.List;
import java.util.Random;

/**
 * All promises after any run of calls before: runs of 512 calls, the same at every time, each answer compared with that
 * of a {@link Model}. Ordinary arguments, those at the document's edges and wrong ones come mixed, so that objects are
 * asked while they fill, when they are full, and after calls that were refused.
 */
public final class RunsTest {
    private static final int CALLS = 512;
    private static final int RUNS = 80;
    private static final int[] WRONG = {-1, 80, Integer.MIN_VALUE, Integer.MAX_VALUE};
    private static final int[] EDGES = {-9999, 9999, -10000, 10000, Integer.MIN_VALUE, Integer.MAX_VALUE};
    private static final int[] MODULI = {1, 2, 1000000, 0, -1, 1000001, Integer.MIN_VALUE, Integer.MAX_VALUE};

    /** Factors of what is placed. */
    private static final int[][] PIECES = {
        {0, 1}, {-1, 1}, {1, 1}, {-1, 2}, {3, 2}, {1, 0, 1}, {1, 1, 1}, {1, -1, 1}, {-2, 0, 1}, {1, 0, 0, 0, 1},
        {1, 0, -10, 0, 1}, {2, 0, 0, 1}, {-6}, {1, -1, 1, -1, 1},
    };
    /** Two that are too great, or just not; their products with x - 1 and its like are not. */
    private static final int[][] GREAT = {{5003, 10000, 5003}, {5003, 9999, 5003}};
    private static final int[][] LESSENING = {{-1, 1}, {1, -1, 1}, {1, -1, 1, -1, 1}, {-1, 1, -1, 1}};

    private final Random chance;
    private final LiftFactors asked = new LiftFactors();
    private final Model model = new Model();
    private final Deque<Call> waiting = new ArrayDeque<>();
    private final List<String> heard = new ArrayList<>();
    private final List<Integer> placed = new ArrayList<>();
    /** How many of a hundred calls may give numbers, so that objects fill fast, slowly or hardly. */
    private final int giving;

    private RunsTest(int run) {
        chance = new Random(run);
        giving = new int[] {10, 20, 40}[run % 3];
    }

    public static void main(String[] args) {
        for (int run = 0; run < RUNS; run++) {
            new RunsTest(run).go(run);
        }
        Check.end();
    }

    private void go(int run) {
        for (int k = 0; k < CALLS; k++) {
            Call call = next();
            String due = call.of(model);
            String got = call.of(asked);
            heard.add(call + " " + got);
            Check.same("run " + run + ", call " + (k + 1) + ", " + call, got, due);
            if (!got.equals(due)) {
                System.out.println("  after " + heard.subList(Math.max(0, k - 20), k));
                return;
            }
        }
    }

    private Call next() {
        int kind = chance.nextInt(100);
        if (waiting.isEmpty() && kind < 5) {
            place();
        }
        if (!waiting.isEmpty()) {
            return waiting.remove();
        }
        if (kind < 5 + giving) {
            return givingCall();
        }
        return kind < 15 + giving ? setOrAt() : question();
    }

    private Call givingCall() {
        return switch (chance.nextInt(13)) {
            case 0 -> new Call("poly");
            case 1, 2, 3 -> new Call("times", number(), number());
            case 4, 5, 6 -> new Call("over", number(), number());
            case 7, 8, 9 -> new Call("gcd", number(), number());
            default -> new Call("run", number());
        };
    }

    private Call setOrAt() {
        if (chance.nextInt(3) == 0) {
            return new Call("at", number(), power());
        }
        int v = chance.nextInt(10) == 0 ? one(EDGES) : chance.nextInt(7) - 3;
        return new Call("set", number(), power(), v);
    }

    private Call question() {
        return switch (chance.nextInt(12)) {
            case 0, 1 -> new Call("factor", place(10));
            case 2, 3 -> new Call("multiplicity", place(10));
            case 4 -> new Call("content", number());
            case 5, 6 -> new Call("root", number(), place(4), chance.nextInt(20) == 0 ? 2 : chance.nextInt(2));
            case 7 -> new Call("roots", number());
            case 8 -> new Call("parts", number(), chance.nextInt(4) == 0 ? chance.nextInt(110) - 5 : smallPrime());
            case 9 -> new Call("squareFree", number());
            case 10 -> new Call("value", number(), chance.nextInt(3) == 0 ? chance.nextInt() : chance.nextInt(9) - 4,
                    chance.nextInt(4) == 0 ? one(MODULI) : 1 + chance.nextInt(1000000));
            default -> new Call("count");
        };
    }

    private int one(int[] of) {
        return of[chance.nextInt(of.length)];
    }

    private int[] one(int[][] of) {
        return of[chance.nextInt(of.length)];
    }

    /** A place in a row, mostly one near its start; now and then there is none such. */
    private int place(int most) {
        return chance.nextInt(30) == 0 ? one(WRONG) : chance.nextInt(1 + chance.nextInt(most));
    }

    /** Mostly one that was placed, one of the latest, or one of the next, which haven't been given yet. */
    private int number() {
        int kind = chance.nextInt(40);
        if (kind == 0) {
            return one(WRONG);
        }
        int p = kind < 6 ? chance.nextInt(80) : near(8);
        if (kind >= 20 && !placed.isEmpty()) {
            p = placed.get(Math.max(0, placed.size() - 1 - chance.nextInt(4)));
        }
        return model.content(p) == 0 && chance.nextInt(5) != 0 ? number() : p;
    }

    private int near(int bound) {
        return Math.min(79, Math.max(0, model.count() + 1 - chance.nextInt(bound)));
    }

    private int power() {
        return chance.nextInt(30) == 0 ? one(new int[] {-1, 11, 10, Integer.MIN_VALUE, Integer.MAX_VALUE})
                : chance.nextInt(1 + chance.nextInt(11));
    }

    private int smallPrime() {
        return one(new int[] {2, 3, 5, 7, 11, 13, 47, 89, 97});
    }

    /** Writes products over polynomials: one of some pieces, or two that share a great one. */
    private void place() {
        if (chance.nextInt(4) > 0) {
            place(near(5), chance.nextInt(8), Slow.row(1));
            return;
        }
        BigInteger[] great = Slow.row(one(GREAT));
        int p = near(5);
        place(p, chance.nextInt(2), Slow.product(great, Slow.row(one(LESSENING))));
        place((p + 1) % 80, chance.nextInt(2), Slow.product(great, Slow.row(one(LESSENING))));
        waiting.add(chance.nextBoolean() ? new Call("gcd", p, (p + 1) % 80) : new Call("run", p));
    }

    private void place(int p, int pieces, BigInteger[] start) {
        BigInteger[] product = start;
        for (int k = 0; k < pieces; k++) {
            BigInteger[] more = Slow.product(product, Slow.row(one(PIECES)));
            product = Slow.fits(more) ? more : product;
        }
        for (int k = 0; k <= 10; k++) {
            int v = k < product.length ? product[k].intValue() : 0;
            if (model.at(p, k) != v) {
                waiting.add(new Call("set", p, k, v));
            }
        }
        placed.add(p);
    }
}
