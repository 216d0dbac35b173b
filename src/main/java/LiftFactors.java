import java.util.Arrays;

/** Polynomials in one letter over the whole numbers, and how they fall apart. */
public final class LiftFactors {
    private static final int NUMBERS = 80;
    private static final int TOP = 10;
    private static final int SIZE = TOP + 1;
    private static final int GREATEST = 9999;
    private static final int GREATEST_PRIME = 97;
    private static final int GREATEST_MODULUS = 1000000;
    /** Above every coefficient of a true quotient, and low enough that no product of a division leaves a long. */
    private static final long GREATEST_QUOTIENT = 1L << 30;

    /**
     * The primes that the work over the whole numbers is done by.
     *
     * A polynomial with coefficients up to 9999 has a Mahler measure of at most 9999 * sqrt(11), so a
     * coefficient of a divisor, brought to the head of the whole, is at most 252 times that. Twice this
     * is below 2^24: a divisor is known from its remainders by any one of these primes.
     *
     * A prime misleads only if it divides one certain whole number, a subresultant of the two polynomials,
     * that is less than 10^94 by Hadamard: fourteen of these primes can't all do that.
     */
    private static final long[] PRIMES = {
        16777259, 16777289, 16777291, 16777331, 16777333, 16777337, 16777381, 16777421,
        16777441, 16777447, 16777469, 16777499, 16777507, 16777531, 16777571, 16777577
    };

    private final int[][] coefficients = new int[NUMBERS][SIZE];
    private int given = 0;
    private final int[] factorNumbers = new int[TOP];
    private final int[] factorMultiplicities = new int[TOP];
    private int factorCount = 0;

    private final long[] first = new long[SIZE];
    private final long[] second = new long[SIZE];
    private final long[] result = new long[SIZE];
    private final long[] product = new long[SIZE + TOP];

    private final Field field = new Field();
    private final Divider divider = new Divider();
    private final CommonDivisor common = new CommonDivisor(field, divider);
    private final Splitter splitter = new Splitter(field);
    private final Factorizer factorizer = new Factorizer(field, divider, common, splitter);
    private final RootFinder rootFinder = new RootFinder();

    public LiftFactors() {
    }

    public int poly() throws IllegalStateException {
        requireNumber();
        Arrays.fill(result, 0);
        return keep(result);
    }

    public boolean set(int p, int k, int v) throws ArrayIndexOutOfBoundsException, IllegalArgumentException {
        requirePolynomial(p);
        requirePower(k);
        if (v < -GREATEST || v > GREATEST) {
            throw new IllegalArgumentException("no such coefficient");
        }
        boolean other = coefficients[p][k] != v;
        coefficients[p][k] = v;
        return other;
    }

    public int at(int p, int k) throws ArrayIndexOutOfBoundsException {
        requirePolynomial(p);
        requirePower(k);
        return coefficients[p][k];
    }

    public int times(int a, int b)
            throws ArrayIndexOutOfBoundsException, IllegalStateException, IllegalArgumentException {
        requirePolynomial(a);
        requirePolynomial(b);
        requireNumber();
        multiply(coefficients[a], coefficients[b]);
        if (isTooGreat(product)) {
            throw new IllegalArgumentException("the product is too great");
        }
        return keep(product);
    }

    public int over(int a, int b)
            throws ArrayIndexOutOfBoundsException, IllegalStateException, ArithmeticException {
        requirePolynomial(a);
        requirePolynomial(b);
        requireNumber();
        load(a, first);
        load(b, second);
        if (Rows.degree(second) < 0) {
            throw new ArithmeticException("nothing is divided by 0");
        }
        if (!divider.divide(first, second) || isTooGreat(divider.quotient)) {
            return -1;
        }
        return keep(divider.quotient);
    }

    public int gcd(int a, int b) throws ArrayIndexOutOfBoundsException, IllegalStateException {
        requirePolynomial(a);
        requirePolynomial(b);
        requireNumber();
        load(a, first);
        load(b, second);
        common.find(first, second, result);
        if (isTooGreat(result)) {
            return -1;
        }
        return keep(result);
    }

    public int run(int p) throws ArrayIndexOutOfBoundsException, IllegalStateException {
        requirePolynomial(p);
        load(p, first);
        int degree = Rows.degree(first);
        if (degree > NUMBERS - given) {
            throw new IllegalStateException("too few numbers are left");
        }
        if (degree < 0) {
            return -1;
        }
        Rows.makePrimitive(first);
        factorizer.findFactors(first);
        for (int k = 0; k < factorizer.foundCount; k++) {
            if (isTooGreat(factorizer.found[k])) {
                return -2;
            }
        }
        keepFactors();
        return factorCount;
    }

    public int factor(int k) throws ArrayIndexOutOfBoundsException {
        requireFactor(k);
        return factorNumbers[k];
    }

    public int multiplicity(int k) throws ArrayIndexOutOfBoundsException {
        requireFactor(k);
        return factorMultiplicities[k];
    }

    public int content(int p) throws ArrayIndexOutOfBoundsException {
        requirePolynomial(p);
        load(p, first);
        return (int) Rows.signedContent(first);
    }

    public int root(int p, int k, int part) throws ArrayIndexOutOfBoundsException, IllegalArgumentException {
        requirePolynomial(p);
        load(p, first);
        Rows.makePrimitive(first);
        rootFinder.findRoots(first);
        if (k < 0 || k >= rootFinder.found) {
            throw new IllegalArgumentException("no such root");
        }
        if (part != 0 && part != 1) {
            throw new IllegalArgumentException("no such part");
        }
        return (int) (part == 0 ? rootFinder.above[k] : rootFinder.below[k]);
    }

    public int roots(int p) throws ArrayIndexOutOfBoundsException {
        requirePolynomial(p);
        load(p, first);
        if (Rows.degree(first) < 0) {
            return -1;
        }
        Rows.makePrimitive(first);
        rootFinder.findRoots(first);
        return rootFinder.found;
    }

    public int parts(int p, int prime) throws ArrayIndexOutOfBoundsException, IllegalArgumentException {
        requirePolynomial(p);
        if (!isSmallPrime(prime)) {
            throw new IllegalArgumentException("no prime from 2 to 97");
        }
        load(p, first);
        int degree = Rows.degree(first);
        if (degree < 0 || first[degree] % prime == 0) {
            return -1;
        }
        field.choose(prime);
        field.makeMonic(first, second);
        splitter.findFixed(second);
        return splitter.fixedCount;
    }

    public boolean squareFree(int p) throws ArrayIndexOutOfBoundsException {
        requirePolynomial(p);
        load(p, first);
        if (Rows.degree(first) < 0) {
            return false;
        }
        Rows.derive(first, second);
        common.find(first, second, result);
        return Rows.degree(result) == 0;
    }

    public int value(int p, int x, int m) throws ArrayIndexOutOfBoundsException, IllegalArgumentException {
        requirePolynomial(p);
        if (m < 1 || m > GREATEST_MODULUS) {
            throw new IllegalArgumentException("no such modulus");
        }
        long place = Math.floorMod(x, m);
        long sum = 0;
        for (int k = TOP; k >= 0; k--) {
            sum = Math.floorMod(sum * place + coefficients[p][k], (long) m);
        }
        return (int) sum;
    }

    public int count() {
        return given;
    }

    private static void requirePolynomial(int p) {
        if (p < 0 || p >= NUMBERS) {
            throw new ArrayIndexOutOfBoundsException("no such polynomial");
        }
    }

    private static void requirePower(int k) {
        if (k < 0 || k > TOP) {
            throw new ArrayIndexOutOfBoundsException("no such power");
        }
    }

    private void requireFactor(int k) {
        if (k < 0 || k >= factorCount) {
            throw new ArrayIndexOutOfBoundsException("no such factor");
        }
    }

    private void requireNumber() {
        if (given >= NUMBERS) {
            throw new IllegalStateException("no number is left");
        }
    }

    private static boolean isSmallPrime(int prime) {
        if (prime < 2 || prime > GREATEST_PRIME) {
            return false;
        }
        for (int d = 2; d * d <= prime; d++) {
            if (prime % d == 0) {
                return false;
            }
        }
        return true;
    }

    private static boolean isTooGreat(long[] row) {
        for (int k = 0; k < row.length; k++) {
            long bound = k <= TOP ? GREATEST : 0;
            if (row[k] < -bound || row[k] > bound) {
                return true;
            }
        }
        return false;
    }

    private void load(int p, long[] row) {
        for (int k = 0; k < SIZE; k++) {
            row[k] = coefficients[p][k];
        }
    }

    /** What is kept comes from a row of its own: the next number may be that of a polynomial in use. */
    private int keep(long[] row) {
        int number = given;
        for (int k = 0; k < SIZE; k++) {
            coefficients[number][k] = (int) row[k];
        }
        given++;
        return number;
    }

    private void keepFactors() {
        factorCount = factorizer.foundCount;
        for (int k = 0; k < factorCount; k++) {
            factorNumbers[k] = keep(factorizer.found[k]);
            factorMultiplicities[k] = factorizer.multiplicities[k];
        }
    }

    private void multiply(int[] a, int[] b) {
        Arrays.fill(product, 0);
        for (int i = 0; i < SIZE; i++) {
            for (int j = 0; j < SIZE; j++) {
                product[i + j] += (long) a[i] * b[j];
            }
        }
    }

    /** Rows of coefficients, from the power 0 on. */
    private static final class Rows {
        private static final int EUCLID_STEPS = 128;

        private Rows() {
        }

        static int degree(long[] row) {
            int k = row.length - 1;
            while (k >= 0 && row[k] == 0) {
                k--;
            }
            return k;
        }

        static void copy(long[] from, long[] to) {
            System.arraycopy(from, 0, to, 0, SIZE);
        }

        static long commonMeasure(long a, long b) {
            long u = Math.abs(a);
            long v = Math.abs(b);
            for (int step = 0; step < EUCLID_STEPS && v != 0; step++) {
                long rest = u % v;
                u = v;
                v = rest;
            }
            return u;
        }

        static long signedContent(long[] row) {
            int top = degree(row);
            long measure = 0;
            for (int k = top; k >= 0 && measure != 1; k--) {
                measure = commonMeasure(measure, row[k]);
            }
            return top >= 0 && row[top] < 0 ? -measure : measure;
        }

        static void makePrimitive(long[] row) {
            long measure = signedContent(row);
            if (measure == 0 || measure == 1) {
                return;
            }
            for (int k = 0; k < row.length; k++) {
                row[k] /= measure;
            }
        }

        static void derive(long[] row, long[] to) {
            for (int k = 1; k < SIZE; k++) {
                to[k - 1] = k * row[k];
            }
            to[TOP] = 0;
        }

        /** Whether a comes before b. Heads are above 0, so the lower degree comes first by itself. */
        static boolean isBefore(long[] a, long[] b) {
            for (int k = TOP; k >= 0; k--) {
                if (a[k] != b[k]) {
                    return a[k] < b[k];
                }
            }
            return false;
        }
    }

    /** Division over the whole numbers. */
    private static final class Divider {
        final long[] quotient = new long[SIZE];
        private final long[] rest = new long[SIZE];

        boolean divide(long[] a, long[] b) {
            int top = Rows.degree(b);
            if (top < 0) {
                return false;
            }
            long head = b[top];
            Rows.copy(a, rest);
            Arrays.fill(quotient, 0);
            for (int k = Rows.degree(a) - top; k >= 0; k--) {
                long q = rest[k + top] / head;
                if (q * head != rest[k + top] || Math.abs(q) > GREATEST_QUOTIENT) {
                    return false;
                }
                quotient[k] = q;
                for (int j = 0; j <= top; j++) {
                    rest[k + j] -= q * b[j];
                }
            }
            return Rows.degree(rest) < 0;
        }
    }

    /** Arithmetic modulo a prime below 2^25: a sum of some twenty products stays well inside a long. */
    private static final class Field {
        long prime = 2;
        final long[] quotient = new long[SIZE];
        private final long[] wide = new long[SIZE + TOP];
        private final long[] left = new long[SIZE];
        private final long[] right = new long[SIZE];

        void choose(long newPrime) {
            prime = Math.max(2, newPrime);
        }

        void reduce(long[] from, long[] to) {
            for (int k = 0; k < SIZE; k++) {
                to[k] = Math.floorMod(from[k], prime);
            }
        }

        long inverse(long v) {
            long base = v % prime;
            long power = 1;
            for (long e = prime - 2; e > 0; e >>= 1) {
                if ((e & 1) == 1) {
                    power = power * base % prime;
                }
                base = base * base % prime;
            }
            return power;
        }

        void makeMonic(long[] from, long[] to) {
            reduce(from, to);
            int top = Rows.degree(to);
            if (top < 0 || to[top] == 1) {
                return;
            }
            long scale = inverse(to[top]);
            for (int k = 0; k <= top; k++) {
                to[k] = to[k] * scale % prime;
            }
        }

        /** Leaves in a what b leaves of it. */
        void divide(long[] a, long[] b) {
            Arrays.fill(quotient, 0);
            int top = Rows.degree(b);
            if (top < 0) {
                return;
            }
            long scale = b[top] == 1 ? 1 : inverse(b[top]);
            for (int k = Rows.degree(a) - top; k >= 0; k--) {
                long q = Math.floorMod(a[k + top] % prime * scale, prime);
                quotient[k] = q;
                for (int j = 0; j <= top; j++) {
                    a[k + j] -= q * b[j];
                }
            }
            reduce(a, a);
        }

        void commonDivisor(long[] a, long[] b, long[] to) {
            reduce(a, left);
            reduce(b, right);
            long[] u = left;
            long[] v = right;
            for (int step = 0; step <= 2 * SIZE && Rows.degree(v) >= 0; step++) {
                divide(u, v);
                long[] rest = u;
                u = v;
                v = rest;
            }
            makeMonic(u, to);
        }

        /** The product of a and b modulo a monic row of the degree n; both are of lower degrees. */
        void multiply(long[] a, long[] b, long[] monic, int n, long[] to) {
            Arrays.fill(wide, 0);
            for (int i = 0; i < n; i++) {
                for (int j = 0; j < n && a[i] != 0; j++) {
                    wide[i + j] += a[i] * b[j];
                }
            }
            for (int k = n - 2; k >= 0; k--) {
                long q = wide[k + n] % prime;
                for (int j = 0; j < n && q != 0; j++) {
                    wide[k + j] -= q * monic[j];
                }
            }
            for (int k = 0; k < SIZE; k++) {
                to[k] = k < n ? Math.floorMod(wide[k], prime) : 0;
            }
        }

        /** The power e (below 2^31) of a row modulo a monic one of the degree n. */
        void raise(long[] row, long e, long[] monic, int n, long[] to) {
            Arrays.fill(to, 0);
            to[0] = 1;
            for (int bit = 30; bit >= 0; bit--) {
                long upper = e >> bit;
                if (upper > 1) {
                    multiply(to, to, monic, n, to);
                }
                if ((upper & 1) == 1) {
                    multiply(to, row, monic, n, to);
                }
            }
        }

        /** From remainders to the whole numbers next to 0 that have them, after a multiplication. */
        void lift(long[] row, long scale) {
            for (int k = 0; k < SIZE; k++) {
                row[k] = nearest(row[k] * scale);
            }
        }

        long nearest(long v) {
            long rest = Math.floorMod(v, prime);
            return rest > prime / 2 ? rest - prime : rest;
        }
    }

    /** Greatest common divisors over the whole numbers, guessed modulo a prime and then proved by division. */
    private static final class CommonDivisor {
        private final Field field;
        private final Divider divider;

        CommonDivisor(Field field, Divider divider) {
            this.field = field;
            this.divider = divider;
        }

        void find(long[] a, long[] b, long[] to) {
            int degreeA = Rows.degree(a);
            int degreeB = Rows.degree(b);
            if (degreeA < 0 || degreeB < 0) {
                Rows.copy(degreeA < 0 ? b : a, to);
                Rows.makePrimitive(to);
                return;
            }
            long scale = Rows.commonMeasure(a[degreeA], b[degreeB]);
            boolean proved = false;
            for (int k = 0; k < PRIMES.length && !proved; k++) {
                field.choose(PRIMES[k]);
                field.commonDivisor(a, b, to);
                field.lift(to, scale);
                Rows.makePrimitive(to);
                proved = divider.divide(a, to) && divider.divide(b, to);
            }
        }
    }

    /** How a monic row falls apart modulo the field's prime, by Berlekamp's rows that are their own power. */
    private static final class Splitter {
        /** Far above the shifts that part any two roots: some 2 * sqrt(prime) * log(prime) are enough. */
        private static final int SHIFTS = 1000000;

        final long[][] pieces = new long[TOP][SIZE];
        int pieceCount = 0;
        int fixedCount = 0;

        private final Field field;
        private final long[][] matrix = new long[TOP][SIZE];
        private final long[][] fixed = new long[TOP][SIZE];
        private final int[] pivotRows = new int[TOP];
        private final long[] base = new long[SIZE];
        private final long[] trial = new long[SIZE];

        Splitter(Field field) {
            this.field = field;
        }

        /**
         * Finds a basis of the rows v with v^prime = v modulo the monic row. It has as many members as there
         * are different factors, even where one divides more than once: v^prime - v has no double root.
         */
        void findFixed(long[] monic) {
            int n = Rows.degree(monic);
            fixedCount = 0;
            if (n < 1) {
                return;
            }
            fillMatrix(monic, n);
            Arrays.fill(pivotRows, -1);
            for (int row = 0; row < n; row++) {
                int column = findPivot(row, n);
                if (column < 0) {
                    addFixed(row, n);
                } else {
                    clearRow(row, column, n);
                    pivotRows[column] = row;
                }
            }
        }

        /** Row i holds x^(i * prime) - x^i. */
        private void fillMatrix(long[] monic, int n) {
            Arrays.fill(base, 0);
            base[1] = 1;
            field.divide(base, monic);
            field.raise(base, field.prime, monic, n, trial);
            Arrays.fill(base, 0);
            base[0] = 1;
            for (int i = 0; i < n; i++) {
                Rows.copy(base, matrix[i]);
                matrix[i][i] = Math.floorMod(matrix[i][i] - 1, field.prime);
                field.multiply(base, trial, monic, n, base);
            }
        }

        private int findPivot(int row, int n) {
            for (int column = 0; column < n; column++) {
                if (pivotRows[column] < 0 && matrix[row][column] != 0) {
                    return column;
                }
            }
            return -1;
        }

        /** Takes multiples of the pivot's column from all others; rows above are not looked at again. */
        private void clearRow(int row, int column, int n) {
            long prime = field.prime;
            long scale = prime - field.inverse(matrix[row][column]);
            for (int i = row; i < n; i++) {
                matrix[i][column] = matrix[i][column] * scale % prime;
            }
            for (int j = 0; j < n; j++) {
                long q = matrix[row][j];
                for (int i = row; i < n && q != 0 && j != column; i++) {
                    matrix[i][j] = (matrix[i][j] + q * matrix[i][column]) % prime;
                }
            }
        }

        private void addFixed(int row, int n) {
            long[] next = fixed[fixedCount];
            Arrays.fill(next, 0);
            next[row] = 1;
            for (int column = 0; column < n; column++) {
                if (pivotRows[column] >= 0) {
                    next[pivotRows[column]] = matrix[row][column];
                }
            }
            fixedCount++;
        }

        /** Parts a square-free monic row, whose fixed rows are found, into its factors; the prime is odd. */
        void split(long[] monic) {
            Rows.copy(monic, pieces[0]);
            pieceCount = 1;
            for (int shift = 0; shift < SHIFTS && pieceCount < fixedCount; shift++) {
                for (int i = 1; i < fixedCount; i++) {
                    int before = pieceCount;
                    for (int j = 0; j < before; j++) {
                        splitPiece(pieces[j], fixed[i], shift);
                    }
                }
            }
        }

        /** A fixed row is a constant on each factor: the shifted constants that are squares part the piece. */
        private void splitPiece(long[] piece, long[] fixedRow, int shift) {
            Rows.copy(fixedRow, base);
            field.divide(base, piece);
            if (Rows.degree(base) < 1) {
                return;
            }
            int n = Rows.degree(piece);
            base[0] = (base[0] + shift) % field.prime;
            field.raise(base, (field.prime - 1) / 2, piece, n, trial);
            trial[0] = Math.floorMod(trial[0] - 1, field.prime);
            field.commonDivisor(piece, trial, trial);
            int degree = Rows.degree(trial);
            if (degree < 1 || degree >= n || pieceCount >= TOP) {
                return;
            }
            Rows.copy(piece, base);
            field.divide(base, trial);
            Rows.copy(field.quotient, piece);
            Rows.copy(trial, pieces[pieceCount]);
            pieceCount++;
        }
    }

    /** All factors over the whole numbers: factors modulo a prime, joined until they divide. */
    private static final class Factorizer {
        final long[][] found = new long[TOP][SIZE];
        final int[] multiplicities = new int[TOP];
        int foundCount = 0;

        private final Field field;
        private final Divider divider;
        private final CommonDivisor common;
        private final Splitter splitter;
        private final long[] left = new long[SIZE];
        private final long[] monic = new long[SIZE];
        private final long[] derived = new long[SIZE];
        private final long[] candidate = new long[SIZE];

        Factorizer(Field field, Divider divider, CommonDivisor common, Splitter splitter) {
            this.field = field;
            this.divider = divider;
            this.common = common;
            this.splitter = splitter;
        }

        void findFactors(long[] primitive) {
            foundCount = 0;
            if (Rows.degree(primitive) < 1) {
                return;
            }
            takeSquareFreePart(primitive);
            field.makeMonic(left, monic);
            splitter.findFixed(monic);
            splitter.split(monic);
            joinPieces();
            countMultiplicities(primitive);
        }

        /**
         * The prime that proves the common divisor stays in the field: modulo it no more roots fall together
         * than over the whole numbers, so the part is square-free there too, and can be split.
         */
        private void takeSquareFreePart(long[] primitive) {
            Rows.derive(primitive, derived);
            common.find(primitive, derived, candidate);
            divider.divide(primitive, candidate);
            Rows.copy(divider.quotient, left);
        }

        /** Small sets of pieces go first, so that a set that divides is no union of two that do. */
        private void joinPieces() {
            int pieces = splitter.pieceCount;
            int piecesLeft = pieces;
            int used = 0;
            for (int size = 1; 2 * size <= piecesLeft; size++) {
                for (int choice = 1; choice < 1 << pieces && 2 * size <= piecesLeft; choice++) {
                    if (Integer.bitCount(choice) == size && (choice & used) == 0 && divides(choice)) {
                        add(candidate);
                        Rows.copy(divider.quotient, left);
                        used |= choice;
                        piecesLeft -= size;
                    }
                }
            }
            add(left);
        }

        private boolean divides(int choice) {
            int n = Rows.degree(monic);
            long head = left[Math.max(0, Rows.degree(left))];
            if (!tailFits(choice, head)) {
                return false;
            }
            Arrays.fill(candidate, 0);
            candidate[0] = 1;
            for (int k = 0; k < splitter.pieceCount; k++) {
                if ((choice >> k & 1) == 1) {
                    field.multiply(candidate, splitter.pieces[k], monic, n, candidate);
                }
            }
            field.lift(candidate, head);
            Rows.makePrimitive(candidate);
            return divider.divide(left, candidate);
        }

        /** The last coefficient alone refuses most sets that don't divide, at little cost. */
        private boolean tailFits(int choice, long head) {
            long tail = head;
            for (int k = 0; k < splitter.pieceCount; k++) {
                if ((choice >> k & 1) == 1) {
                    tail = tail * splitter.pieces[k][0] % field.prime;
                }
            }
            tail = field.nearest(tail);
            return tail == 0 ? left[0] == 0 : head * left[0] % tail == 0;
        }

        private void add(long[] row) {
            if (foundCount >= TOP) {
                return;
            }
            int place = foundCount;
            while (place > 0 && Rows.isBefore(row, found[place - 1])) {
                Rows.copy(found[place - 1], found[place]);
                place--;
            }
            Rows.copy(row, found[place]);
            foundCount++;
        }

        private void countMultiplicities(long[] primitive) {
            Rows.copy(primitive, left);
            for (int k = 0; k < foundCount; k++) {
                int often = 0;
                while (often < TOP && divider.divide(left, found[k])) {
                    Rows.copy(divider.quotient, left);
                    often++;
                }
                multiplicities[k] = often;
            }
        }
    }

    /** Rational roots, by all fractions of a divisor of the tail and one of the head. */
    private static final class RootFinder {
        /** No number up to 9999 has more divisors. */
        private static final int MOST_DIVISORS = 64;

        final long[] above = new long[TOP];
        final long[] below = new long[TOP];
        int found = 0;

        private final long[] heads = new long[MOST_DIVISORS];
        private final long[] tails = new long[MOST_DIVISORS];

        /** A primitive row has only primitive divisors: a fraction that is found is in lowest terms. */
        void findRoots(long[] primitive) {
            found = 0;
            int top = Rows.degree(primitive);
            if (top < 1) {
                return;
            }
            int low = 0;
            while (low < top && primitive[low] == 0) {
                low++;
            }
            if (low > 0) {
                add(0, 1);
            }
            int headCount = listDivisors(primitive[top], heads);
            int tailCount = listDivisors(primitive[low], tails);
            for (int i = 0; i < headCount && low < top; i++) {
                for (int j = 0; j < tailCount; j++) {
                    addIfRoot(primitive, low, tails[j], heads[i]);
                    addIfRoot(primitive, low, -tails[j], heads[i]);
                }
            }
        }

        private static int listDivisors(long v, long[] to) {
            long whole = Math.min(GREATEST, Math.abs(v));
            int listed = 0;
            for (long d = 1; d * d <= whole && listed + 2 <= MOST_DIVISORS; d++) {
                if (whole % d == 0) {
                    to[listed] = d;
                    listed++;
                    if (d * d != whole) {
                        to[listed] = whole / d;
                        listed++;
                    }
                }
            }
            return listed;
        }

        private void addIfRoot(long[] row, int low, long up, long down) {
            if (dividedBy(row, low, up, down)) {
                add(up, down);
            }
        }

        /** Whether (down * x - up) divides the row from the power low on. */
        private static boolean dividedBy(long[] row, int low, long up, long down) {
            if (down == 0) {
                return false;
            }
            long q = 0;
            for (int k = Rows.degree(row); k > low; k--) {
                long head = row[k] + up * q;
                q = head / down;
                if (q * down != head || Math.abs(q) > GREATEST_QUOTIENT) {
                    return false;
                }
            }
            return row[low] + up * q == 0;
        }

        private void add(long up, long down) {
            if (found >= TOP) {
                return;
            }
            int place = found;
            while (place > 0 && up * below[place - 1] < above[place - 1] * down) {
                above[place] = above[place - 1];
                below[place] = below[place - 1];
                place--;
            }
            above[place] = up;
            below[place] = down;
            found++;
        }
    }
}
