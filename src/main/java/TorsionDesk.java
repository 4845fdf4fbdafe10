import java.util.Arrays;

/**
 * Curves y*y + a*x*y + c*y = x*x*x + b*x*x + d*x + e with whole numbers, and
 * their points of finite order over the rationals. The numbered promises that
 * this class keeps stand in the project's document.
 */
public final class TorsionDesk {
    /** Nothing there. */
    public static final int NONE = -1;

    private static final int LARGEST_COEFFICIENT = 6;
    private static final int LARGEST_PRIME = 97;
    private static final int[] PRIMES = {
        3, 5, 7, 11, 13, 17, 19, 23, 29, 31, 37, 41, 43, 47, 53, 59, 61, 67, 71, 73, 79, 83, 89, 97
    };

    private final Cubic cubic;
    private final SquareDivisors divisors;
    private final FinitePoints finite;
    private boolean hasCurve;
    private int a;
    private int c;

    public TorsionDesk() {
        cubic = new Cubic();
        divisors = new SquareDivisors();
        finite = new FinitePoints();
    }

    public int curve(int a, int b, int c, int d, int e) throws IllegalArgumentException, ArithmeticException {
        if (!isCoefficient(a) || !isCoefficient(b) || !isCoefficient(c) || !isCoefficient(d) || !isCoefficient(e)) {
            throw new IllegalArgumentException("a coefficient is not -6 .. 6");
        }
        long square = a * a + 4 * b;
        long linear = 16 * d + 8 * a * c;
        long constant = 16 * c * c + 64 * e;
        // Looked at before anything is changed: what throws leaves the curve before.
        if (Cubic.discriminantOf(square, linear, constant) == 0) {
            throw new ArithmeticException("the curve is singular");
        }
        this.a = a;
        this.c = c;
        cubic.become(square, linear, constant);
        divisors.listFor(cubic.discriminant);
        finite.search(cubic, divisors);
        hasCurve = true;
        return finite.size;
    }

    public long discriminant() {
        return hasCurve ? cubic.discriminant : 0;
    }

    public int candidate(int k) {
        return k >= 0 && k < divisors.size ? divisors.row[k] : NONE;
    }

    public int points() {
        return finite.size;
    }

    public int point(int k, int what) {
        if (!finite.has(k)) {
            return 0;
        }
        if (k == 0) {
            return what == 2 ? 1 : 0;
        }
        int x = finite.xs[k];
        int y = finite.ys[k];
        // x = X / 4, and Y = 4 * (2 * y + a * x + c) solved for y is this over 8.
        int eightfoldY = y - a * x - 4 * c;
        switch (what) {
            case 0: return x;
            case 1: return y;
            case 2: return finite.orders[k];
            case 3: return x >> sharedTwos(x, 2);
            case 4: return 4 >> sharedTwos(x, 2);
            case 5: return eightfoldY >> sharedTwos(eightfoldY, 3);
            case 6: return 8 >> sharedTwos(eightfoldY, 3);
            default: return 0;
        }
    }

    public int find(int x, int y) {
        return finite.numberOf(x, y);
    }

    public int sum(int j, int k) {
        return finite.added(cubic, j, k);
    }

    public int times(int n, int k) {
        return finite.multiple(cubic, n, k);
    }

    public int structure(int what) {
        if (!hasCurve) {
            return NONE;
        }
        switch (what) {
            case 0: return finite.smallerFactor();
            case 1: return finite.greatestOrder();
            case 2: return finite.smallerMaker(cubic);
            case 3: return finite.greaterMaker();
            default: return NONE;
        }
    }

    public int modulo(int p) throws IllegalArgumentException, IllegalStateException, ArithmeticException {
        if (!isPrime(p)) {
            throw new IllegalArgumentException("no prime 3 .. 97");
        }
        if (!hasCurve) {
            throw new IllegalStateException("there is no curve");
        }
        if (!cubic.isGoodFor(p)) {
            throw new ArithmeticException("the prime divides the discriminant");
        }
        return cubic.countFor(p);
    }

    public int bound(int n) {
        if (!hasCurve || n > LARGEST_PRIME) {
            return 0;
        }
        int shared = 0;
        for (int p : PRIMES) {
            if (p <= n && cubic.isGoodFor(p)) {
                shared = greatestDivisor(shared, cubic.countFor(p));
            }
        }
        return shared;
    }

    private static boolean isCoefficient(int number) {
        return number >= -LARGEST_COEFFICIENT && number <= LARGEST_COEFFICIENT;
    }

    private static boolean isPrime(int number) {
        for (int p : PRIMES) {
            if (p == number) {
                return true;
            }
        }
        return false;
    }

    /** How often 2 divides both the numerator and 2 to the power given; it divides 0 without end. */
    private static int sharedTwos(int numerator, int power) {
        int shared = 0;
        while (shared < power && (numerator >> shared & 1) == 0) {
            shared++;
        }
        return shared;
    }

    private static int greatestDivisor(int first, int second) {
        int greater = first;
        int smaller = second;
        // The remainder halves at least every second step, so 64 is more than any two ints need.
        for (int step = 0; step < 64 && smaller != 0; step++) {
            int remainder = greater % smaller;
            greater = smaller;
            smaller = remainder;
        }
        return greater;
    }

    /** The cubic X*X*X + square*X*X + linear*X + constant of a curve. */
    private static final class Cubic {
        long square;
        long linear;
        long constant;
        long discriminant;
        private final int[] rootCounts = new int[LARGEST_PRIME];

        static long discriminantOf(long square, long linear, long constant) {
            return square * square * linear * linear
                - 4 * linear * linear * linear
                - 4 * square * square * square * constant
                - 27 * constant * constant
                + 18 * square * linear * constant;
        }

        void become(long newSquare, long newLinear, long newConstant) {
            square = newSquare;
            linear = newLinear;
            constant = newConstant;
            discriminant = discriminantOf(newSquare, newLinear, newConstant);
        }

        long valueAt(long x) {
            return ((x + square) * x + linear) * x + constant;
        }

        long steepnessAt(long x) {
            return (3 * x + 2 * square) * x + linear;
        }

        boolean isGoodFor(int p) {
            return p > 0 && discriminant % p != 0;
        }

        /** How many points there are modulo p, the point O among them. */
        int countFor(int p) {
            if (p < 1 || p > LARGEST_PRIME) {
                return 0;
            }
            Arrays.fill(rootCounts, 0);
            for (int y = 0; y < p; y++) {
                rootCounts[y * y % p]++;
            }
            int count = 1;
            for (int x = 0; x < p; x++) {
                count += rootCounts[(int) Math.floorMod(valueAt(x), (long) p)];
            }
            return count;
        }
    }

    /** The numbers above 0, rising, whose squares divide a discriminant. */
    private static final class SquareDivisors {
        // No curve with coefficients -6 .. 6 has more (all of them were counted).
        private static final int CAPACITY = 64;
        // Its cube is above every discriminant (892366848 at most).
        private static final int ABOVE_CUBE_ROOT = 1000;

        final int[] row = new int[CAPACITY];
        int size;
        long largestSquare;

        void listFor(long discriminant) {
            int largest = largestRoot(Math.abs(discriminant));
            largestSquare = (long) largest * largest;
            size = 0;
            int middle = (int) floorOfRoot(largest);
            for (int t = 1; t <= middle; t++) {
                if (largest % t == 0) {
                    append(t);
                }
            }
            for (int t = middle; t >= 1; t--) {
                if (largest % t == 0 && largest / t > t) {
                    append(largest / t);
                }
            }
        }

        /** The listed number whose square this is; NONE if there is none. */
        int rootOf(long value) {
            if (value < 1 || largestSquare % value != 0) {
                return NONE;
            }
            for (int i = 0; i < size; i++) {
                if ((long) row[i] * row[i] == value) {
                    return row[i];
                }
            }
            return NONE;
        }

        private void append(int number) {
            if (size < CAPACITY) {
                row[size] = number;
                size++;
            }
        }

        /** The greatest number whose square divides this; all others whose squares do divide that one. */
        private static int largestRoot(long number) {
            long rest = number;
            long root = 1;
            for (long p = 2; p < ABOVE_CUBE_ROOT && p * p * p <= rest; p++) {
                for (int i = 0; i < 64 && rest % (p * p) == 0; i++) {
                    rest /= p * p;
                    root *= p;
                }
                if (rest % p == 0) {
                    rest /= p;
                }
            }
            // All primes in the rest are too great for three of them: it is 1, a prime, or a product of two.
            long last = floorOfRoot(rest);
            return (int) (last * last == rest ? root * last : root);
        }

        /** The greatest number whose square is not above this one, which is below 2 to the power 32. */
        private static long floorOfRoot(long number) {
            long root = 0;
            for (long bit = 1 << 15; bit > 0; bit >>= 1) {
                if ((root + bit) * (root + bit) <= number) {
                    root += bit;
                }
            }
            return root;
        }
    }

    /** The points of finite order, numbered; O is point 0 and has 0 in both rows. */
    private static final class FinitePoints {
        // While searching, the rows hold 18 points at most (all curves were counted), in the end 16.
        private static final int CAPACITY = 32;
        private static final int GREATEST_ORDER = 12;
        // For |A| <= 60, |B| <= 384, |C| <= 960 the cubic is below 0 left of this.
        private static final int LOWEST_X = -70;
        // For A >= -24, B >= -384 the cubic rises from here on.
        private static final int RISES_FROM = 23;
        // With C >= -384 too, the cubic is above every discriminant (892366848 at most) right of this.
        private static final int HIGHEST_X = 1000;

        final int[] xs = new int[CAPACITY];
        final int[] ys = new int[CAPACITY];
        final int[] orders = new int[CAPACITY];
        int size;

        boolean has(int k) {
            return k >= 0 && k < size;
        }

        void search(Cubic cubic, SquareDivisors divisors) {
            collect(cubic, divisors);
            // All orders first: the sums must find the points by the numbers that they have now.
            for (int k = 0; k < size; k++) {
                orders[k] = orderOf(cubic, k);
            }
            keepFinite();
        }

        /** Lists O and, as they are numbered, all points with Y 0 or Y * Y dividing the discriminant. */
        private void collect(Cubic cubic, SquareDivisors divisors) {
            size = 0;
            append(0, 0);
            for (int x = LOWEST_X; x <= HIGHEST_X; x++) {
                long value = cubic.valueAt(x);
                if (x >= RISES_FROM && value > divisors.largestSquare) {
                    break;
                }
                if (value == 0) {
                    append(x, 0);
                }
                int root = divisors.rootOf(value);
                if (root != NONE) {
                    append(x, -root);
                    append(x, root);
                }
            }
        }

        private void append(int x, int y) {
            if (size < CAPACITY) {
                xs[size] = x;
                ys[size] = y;
                size++;
            }
        }

        /** The order of point k; NONE if a multiple leaves the list or none of the first twelve is O. */
        private int orderOf(Cubic cubic, int k) {
            int multiple = k;
            for (int order = 1; order <= GREATEST_ORDER; order++) {
                if (multiple == 0) {
                    return order;
                }
                multiple = added(cubic, multiple, k);
            }
            return NONE;
        }

        private void keepFinite() {
            int kept = 0;
            for (int k = 0; k < size; k++) {
                if (orders[k] != NONE) {
                    xs[kept] = xs[k];
                    ys[kept] = ys[k];
                    orders[kept] = orders[k];
                    kept++;
                }
            }
            size = kept;
        }

        /** The number of the listed point with these X and Y, never that of O; NONE if there is none. */
        int numberOf(long x, long y) {
            for (int k = 1; k < size; k++) {
                if (xs[k] == x && ys[k] == y) {
                    return k;
                }
            }
            return NONE;
        }

        /** The number of the sum of points j and k; NONE if one of the three is not listed. */
        int added(Cubic cubic, int j, int k) {
            if (!has(j) || !has(k)) {
                return NONE;
            }
            if (j == 0 || k == 0) {
                return j + k;
            }
            long x = xs[j];
            long y = ys[j];
            boolean sameX = xs[k] == x;
            if (sameX && ys[k] == -y) {
                return 0;
            }
            long rise = sameX ? cubic.steepnessAt(x) : ys[k] - y;
            long run = sameX ? 2 * y : xs[k] - x;
            // A sum with whole numbers has a whole slope, since the square of the slope is whole.
            if (run == 0 || rise % run != 0) {
                return NONE;
            }
            long slope = rise / run;
            long z = slope * slope - cubic.square - x - xs[k];
            // For a listed z the Y-number is small; for others it may wrap around, but z finds nothing.
            return numberOf(z, -(y + slope * (z - x)));
        }

        int multiple(Cubic cubic, int n, int k) {
            if (!has(k)) {
                return NONE;
            }
            int order = orders[k];
            int left = order > 0 ? Math.floorMod(n, order) : 0;
            int reached = 0;
            for (int i = 0; i < left; i++) {
                reached = added(cubic, reached, k);
            }
            return reached;
        }

        int greatestOrder() {
            int greatest = 1;
            for (int k = 0; k < size; k++) {
                greatest = Math.max(greatest, orders[k]);
            }
            return greatest;
        }

        int smallerFactor() {
            int greatest = greatestOrder();
            return greatest > 0 ? size / greatest : NONE;
        }

        /** The number of the point Q of the document. */
        int greaterMaker() {
            int greatest = greatestOrder();
            for (int k = 0; k < size; k++) {
                if (orders[k] == greatest) {
                    return k;
                }
            }
            return NONE;
        }

        /** The number of the point P of the document. */
        int smallerMaker(Cubic cubic) {
            int factor = smallerFactor();
            int greater = greaterMaker();
            for (int k = 0; k < size; k++) {
                if (orders[k] == factor && meetsOnlyInZero(cubic, k, greater)) {
                    return k;
                }
            }
            return NONE;
        }

        /** Whether no multiple of point k but O is a multiple of point q: then all their sums differ. */
        private boolean meetsOnlyInZero(Cubic cubic, int k, int q) {
            for (int i = 1; i < orders[k]; i++) {
                if (isMultiple(cubic, multiple(cubic, i, k), q)) {
                    return false;
                }
            }
            return true;
        }

        private boolean isMultiple(Cubic cubic, int k, int q) {
            int reached = 0;
            for (int i = 0; i < GREATEST_ORDER; i++) {
                if (reached == k) {
                    return true;
                }
                reached = added(cubic, reached, q);
            }
            return false;
        }
    }
}
