import java.math.BigInteger;
import java.util.Arrays;
import java.util.HashMap;
import java.util.List;
import java.util.Map;
import java.util.TreeMap;

/** The factors of a row and their multiplicities, by a prime that is far above all that can come up. */
final class SlowFactors {
    private static final BigInteger PRIME = BigInteger.ONE.shiftLeft(61).subtract(BigInteger.ONE);

    private final Modular field = new Modular(PRIME);
    private final Map<List<BigInteger>, TreeMap<BigInteger[], Integer>> known = new HashMap<>();

    /** In the document's order; none of 0 and of a constant. */
    TreeMap<BigInteger[], Integer> of(BigInteger[] a) {
        BigInteger[] primitive = Slow.primitive(a);
        return known.computeIfAbsent(Arrays.asList(primitive), row -> find(primitive));
    }

    private TreeMap<BigInteger[], Integer> find(BigInteger[] primitive) {
        TreeMap<BigInteger[], Integer> found = new TreeMap<>(Slow.ORDER);
        if (primitive.length < 2) {
            return found;
        }
        BigInteger[] left = Slow.quotient(primitive, Slow.gcd(primitive, Slow.derived(primitive)));
        if (field.gcd(left, Slow.derived(left)).length != 1) {
            throw new AssertionError("a square modulo the prime, of " + Arrays.toString(primitive));
        }
        List<BigInteger[]> pieces = field.split(left);
        for (int size = 1; 2 * size <= pieces.size(); size++) {
            for (int choice = 1; choice < 1 << pieces.size() && 2 * size <= pieces.size(); choice++) {
                BigInteger[] factor = Integer.bitCount(choice) == size ? joined(choice, pieces, left) : null;
                if (factor != null && Slow.quotient(left, factor) != null) {
                    found.put(factor, often(factor, primitive));
                    left = Slow.quotient(left, factor);
                    take(choice, pieces);
                    choice = 0;
                }
            }
        }
        if (left.length > 1) {
            found.put(left, often(left, primitive));
        }
        return found;
    }

    private BigInteger[] joined(int choice, List<BigInteger[]> pieces, BigInteger[] left) {
        BigInteger[] product = {left[left.length - 1]};
        for (int k = 0; k < pieces.size(); k++) {
            product = (choice >> k & 1) == 1 ? field.reduce(Slow.product(product, pieces.get(k))) : product;
        }
        return Slow.primitive(field.nearest(product));
    }

    private static void take(int choice, List<BigInteger[]> pieces) {
        for (int k = pieces.size() - 1; k >= 0; k--) {
            if ((choice >> k & 1) == 1) {
                pieces.remove(k);
            }
        }
    }

    private static int often(BigInteger[] factor, BigInteger[] primitive) {
        int often = 0;
        BigInteger[] left = primitive;
        while (Slow.quotient(left, factor) != null) {
            left = Slow.quotient(left, factor);
            often++;
        }
        return often;
    }
}
