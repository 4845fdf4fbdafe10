import java.math.BigInteger;

/** Promises 11 and 12 and the terms that they use: a test for each sentence that names a boundary case. */
public final class PrimeBoundaryTests {
    private static final Check CHECK = new Check();

    /** For each prime a curve whose discriminant it divides. */
    private static final int[][] DIVIDED = {
        {3, 0, 0, 0, 0, 1}, {5, -6, -6, -6, -5, -3}, {7, -6, -6, -6, -6, -4}, {11, 0, -1, 1, 0, 0},
        {13, -6, -6, -6, -6, -2}, {17, -6, -6, -6, -5, -3}, {19, -6, -6, -6, -6, -4}, {23, -6, -6, -6, -4, -4},
        {29, -6, -6, -6, -4, -6}, {31, -6, -6, -6, -6, -3}, {37, 0, 0, 1, -1, 0}, {41, -6, -6, -6, -4, -5},
        {43, -6, -6, -6, -4, -5}, {47, -6, -6, -6, 0, -1}, {53, -6, -6, -6, -3, 1}, {59, -6, -6, -5, -4, -4},
        {61, -6, -6, -6, -3, -3}, {67, -6, -6, -6, 0, 1}, {71, -6, -6, -5, -1, -1}, {73, -6, -6, -6, -3, -2},
        {79, -6, -6, -6, -5, 0}, {83, -6, -6, -6, 0, -2}, {89, -6, -6, -6, -3, -6}, {97, -6, -6, -6, -4, 1}
    };

    private PrimeBoundaryTests() {
    }

    public static void main(String[] args) {
        noPrimes();
        noPrimesFarOff();
        noCurve();
        primesThatDivide();
        theOneNamedFirst();
        throwingChangesNothing();
        primesAtTheirEnds();
        pairsAndOneMore();
        boundOfNone();
        boundOfPrimesThatAllDivide();
        boundWithoutCurve();
        boundAboveTheLastPrime();
        boundUpToItsPrime();
        boundOfOnePrime();
        boundLeavesOutWhatDivides();
        boundBetweenPrimes();
        CHECK.end();
    }

    private static String name(int[] k, int from) {
        return "curve(" + k[from] + ", " + k[from + 1] + ", " + k[from + 2] + ", " + k[from + 3] + ", " + k[from + 4]
            + ") ";
    }

    private static TorsionDesk divided(int[] row) {
        return Given.curve(row[1], row[2], row[3], row[4], row[5]);
    }

    private static void noPrimes() {
        CHECK.about("Promise 11", "IllegalArgumentException if p is no prime 3 .. 97");
        TorsionDesk desk = Given.six();
        for (int p = -130; p <= 130; p++) {
            if (!Given.isPrime(p)) {
                int number = p;
                CHECK.thrown("modulo(" + p + ")", Check.ARGUMENT, () -> desk.modulo(number));
            }
        }
        CHECK.holds("2 is too small, 101 too large", !Given.isPrime(2) && !Given.isPrime(101) && Given.isPrime(97));
    }

    private static void noPrimesFarOff() {
        CHECK.about("Promise 11", "IllegalArgumentException if p is no prime 3 .. 97");
        TorsionDesk desk = Given.six();
        for (int p : Given.FAR) {
            CHECK.thrown("modulo(" + p + ")", Check.ARGUMENT, () -> desk.modulo(p));
        }
        // MAX is a prime; the others are 5 when they are cut.
        for (int p : new int[] {Given.MAX, 5 + 256, 5 - 256, 5 + 65536, 5 - 65536, 5 + (1 << 30), 5 + Given.MIN}) {
            CHECK.thrown("modulo(" + p + ")", Check.ARGUMENT, () -> desk.modulo(p));
        }
    }

    private static void noCurve() {
        CHECK.about("Promise 11", "IllegalStateException if there is no curve");
        TorsionDesk desk = new TorsionDesk();
        TorsionDesk refused = new TorsionDesk();
        CHECK.thrown("curve(0, 0, 0, 0, 0)", Check.ARITHMETIC, () -> refused.curve(0, 0, 0, 0, 0));
        CHECK.thrown("curve(0, 0, 0, 0, 7)", Check.ARGUMENT, () -> refused.curve(0, 0, 0, 0, 7));
        for (int p = 3; p <= 97; p++) {
            if (Given.isPrime(p)) {
                int prime = p;
                CHECK.thrown("modulo(" + p + ")", Check.STATE, () -> desk.modulo(prime));
                CHECK.thrown("after refused curves, modulo(" + p + ")", Check.STATE, () -> refused.modulo(prime));
            }
        }
        desk.curve(0, 0, 0, 0, 1);
        CHECK.due("with a curve then, modulo(5)", desk.modulo(5), 6);
    }

    private static void primesThatDivide() {
        CHECK.about("Promise 11", "ArithmeticException if p divides the discriminant");
        for (int[] row : DIVIDED) {
            TorsionDesk desk = divided(row);
            CHECK.due(name(row, 1) + row[0] + " divides", desk.discriminant() % row[0], 0);
            for (int p = 3; p <= 97; p++) {
                if (Given.isPrime(p)) {
                    int prime = p;
                    Class<?> want = desk.discriminant() % p == 0 ? Check.ARITHMETIC : null;
                    CHECK.thrown(name(row, 1) + "modulo(" + p + ")", want, () -> desk.modulo(prime));
                }
            }
        }
    }

    private static void theOneNamedFirst() {
        CHECK.about("Promise 11", "(The one named first, if several hold.)");
        TorsionDesk none = new TorsionDesk();
        for (int p : new int[] {Given.MIN, -5, -3, -1, 0, 1, 2, 4, 9, 15, 49, 91, 95, 96, 98, 99, 101, Given.MAX}) {
            CHECK.thrown("no prime, no curve, modulo(" + p + ")", Check.ARGUMENT, () -> none.modulo(p));
        }
        // All of these divide -110592, which is -4096 * 27.
        TorsionDesk six = Given.six();
        for (int p : new int[] {-96, -64, -27, -9, -3, -2, -1, 1, 2, 4, 6, 8, 9, 12, 27, 64, 96, 4096, 110592}) {
            CHECK.due(p + " divides", six.discriminant() % p, 0);
            CHECK.thrown("no prime, but divides, modulo(" + p + ")", Check.ARGUMENT, () -> six.modulo(p));
        }
        // Without a curve discriminant() answers 0, which every prime divides.
        CHECK.thrown("no curve, modulo(3)", Check.STATE, () -> new TorsionDesk().modulo(3));
        CHECK.thrown("no curve, modulo(97)", Check.STATE, () -> new TorsionDesk().modulo(97));
    }

    private static void throwingChangesNothing() {
        CHECK.about("Promise 11", "IllegalArgumentException ...; IllegalStateException ...; ArithmeticException ...");
        String want = Given.answers(Given.six());
        TorsionDesk desk = Given.six();
        CHECK.thrown("modulo(4)", Check.ARGUMENT, () -> desk.modulo(4));
        CHECK.thrown("modulo(3)", Check.ARITHMETIC, () -> desk.modulo(3));
        CHECK.due("after both", Given.answers(desk), want);
        TorsionDesk none = new TorsionDesk();
        CHECK.thrown("modulo(4)", Check.ARGUMENT, () -> none.modulo(4));
        CHECK.thrown("modulo(3)", Check.STATE, () -> none.modulo(3));
        CHECK.due("after both", Given.answers(none), Given.answers(new TorsionDesk()));
    }

    private static void primesAtTheirEnds() {
        CHECK.about("Terms", "MODULO a prime p, 3 .. 97, that does not divide the discriminant");
        CHECK.due("the first prime", Given.one().modulo(3), 7);
        CHECK.due("the last prime", Given.curve(0, -1, 1, 0, 0).modulo(97), 105);
        TorsionDesk desk = Given.one();
        CHECK.due("the last, then the first", desk.modulo(97), pairs(new int[] {0, 0, 1, -1, 0}, 97));
        CHECK.due("the first behind the last", desk.modulo(3), 7);
    }

    private static void pairsAndOneMore() {
        CHECK.about("Terms", "as many points as there are pairs X, Y, 0 .. p - 1, with Y * Y - g(X) divided by p, "
            + "and one more");
        CHECK.due("no pair at all", Given.curve(-6, -6, -6, -4, -4).modulo(3), 1);
        CHECK.due("the most for 3", Given.curve(-6, -6, -6, -4, -5).modulo(3), 7);
        CHECK.due("the fewest for 97", Given.curve(-6, -6, -6, 0, 3).modulo(97), 79);
        CHECK.due("the most for 97", Given.curve(-6, -6, -6, 4, 1).modulo(97), 117);
        int[][] curves = {
            {-6, -6, -6, -4, -4}, {-6, -6, -6, -4, -5}, {-6, 6, 6, 6, 6}, {6, 6, 6, 6, 6}, {-6, -6, -6, -6, -6},
            {0, 0, 0, 0, 1}, {5, 3, 4, 0, -4}, {0, 0, 0, 0, -6}
        };
        for (int[] k : curves) {
            TorsionDesk desk = Given.curve(k);
            for (int p = 3; p <= 97; p++) {
                if (Given.isPrime(p) && desk.discriminant() % p != 0) {
                    CHECK.due(name(k, 0) + "modulo(" + p + ")", desk.modulo(p), pairs(k, p));
                }
            }
        }
    }

    /** The count of the document, pair by pair, with one more. */
    private static int pairs(int[] k, int p) {
        long square = k[0] * k[0] + 4 * k[1];
        long linear = 16 * k[3] + 8 * k[0] * k[2];
        long constant = 16 * k[2] * k[2] + 64 * k[4];
        int count = 1;
        for (long x = 0; x < p; x++) {
            for (long y = 0; y < p; y++) {
                if ((y * y - (x * x * x + square * x * x + linear * x + constant)) % p == 0) {
                    count++;
                }
            }
        }
        return count;
    }

    private static void boundOfNone() {
        CHECK.about("Promise 12", "0 if there are none");
        for (int[] k : Given.EVERY_STRUCTURE) {
            TorsionDesk desk = Given.curve(k);
            for (int n : new int[] {Given.MIN, Given.MIN + 1, -65536, -97, -5, -3, -2, -1, 0, 1, 2}) {
                CHECK.due(name(k, 0) + "bound(" + n + ")", desk.bound(n), 0);
            }
        }
    }

    private static void boundOfPrimesThatAllDivide() {
        CHECK.about("Promise 12", "0 if there are none");
        TorsionDesk three = Given.six();
        CHECK.due("3 divides, bound(3)", three.bound(3), 0);
        CHECK.due("3 divides, bound(4)", three.bound(4), 0);
        CHECK.due("3 divides, bound(5)", three.bound(5), 6);
        // 3, 5, 7, 11 and 13 divide -19219200: no curve has a later first prime.
        TorsionDesk thirteen = Given.curve(-6, 5, 3, -4, 1);
        CHECK.due("discriminant()", thirteen.discriminant(), -19219200);
        for (int n = 3; n <= 16; n++) {
            CHECK.due("up to 13 all divide, bound(" + n + ")", thirteen.bound(n), 0);
        }
        CHECK.due("bound(17)", thirteen.bound(17), pairs(new int[] {-6, 5, 3, -4, 1}, 17));
    }

    private static void boundWithoutCurve() {
        CHECK.about("Promise 12", "0 if there are ... no curve");
        TorsionDesk desk = new TorsionDesk();
        for (int n = 0; n <= 100; n++) {
            CHECK.due("bound(" + n + ")", desk.bound(n), 0);
        }
        for (int n : Given.FAR) {
            CHECK.due("bound(" + n + ")", desk.bound(n), 0);
        }
        CHECK.thrown("curve(0, 0, 0, 0, 0)", Check.ARITHMETIC, () -> desk.curve(0, 0, 0, 0, 0));
        CHECK.due("after a singular curve, bound(97)", desk.bound(97), 0);
    }

    private static void boundAboveTheLastPrime() {
        CHECK.about("Promise 12", "0 if ... n is above 97");
        for (int[] k : Given.EVERY_STRUCTURE) {
            TorsionDesk desk = Given.curve(k);
            CHECK.holds(name(k, 0) + "bound(97) above 0", desk.bound(97) > 0);
            for (int n : new int[] {98, 99, 100, 101, 127, 128, 256, 256 + 97, 65536 + 97, Given.MAX - 1, Given.MAX}) {
                CHECK.due(name(k, 0) + "bound(" + n + ")", desk.bound(n), 0);
            }
        }
    }

    private static void boundUpToItsPrime() {
        CHECK.about("Promise 12", "modulo all primes 3 .. n");
        CHECK.due("3 itself", Given.one().bound(3), 7);
        CHECK.due("before 5, bound(4)", Given.one().bound(4), 7);
        CHECK.due("5 itself, bound(5)", Given.one().bound(5), 1);
        // The latest prime that makes a difference for coefficients -6 .. 6.
        CHECK.due("before 79, bound(78)", Given.curve(-6, 0, 5, 6, 5).bound(78), 2);
        CHECK.due("79 itself, bound(79)", Given.curve(-6, 0, 5, 6, 5).bound(79), 1);
        CHECK.due("bound(96)", Given.curve(-6, 0, 5, 6, 5).bound(96), 1);
        CHECK.due("bound(97)", Given.curve(-6, 0, 5, 6, 5).bound(97), 1);
        CHECK.due("more than there are points, bound(97)", Given.curve(-5, -6, 0, -3, -3).bound(97), 10);
        CHECK.due("more than there are points, points()", Given.curve(-5, -6, 0, -3, -3).points(), 2);
    }

    private static void boundOfOnePrime() {
        CHECK.about("Promise 12", "The greatest number that divides the numbers of points modulo all primes");
        CHECK.due("7 alone", Given.one().bound(3), Given.one().modulo(3));
        CHECK.due("1 alone", Given.curve(-6, -6, -6, -4, -4).bound(3), 1);
        CHECK.due("6 alone", Given.six().bound(5), Given.six().modulo(5));
    }

    private static void boundLeavesOutWhatDivides() {
        CHECK.about("Promise 12", "all primes 3 .. n that do not divide the discriminant");
        for (int[] row : DIVIDED) {
            TorsionDesk desk = divided(row);
            CHECK.due(name(row, 1) + "bound(" + row[0] + ")", desk.bound(row[0]), desk.bound(row[0] - 1));
        }
        CHECK.due("11 divides, bound(11)", Given.curve(0, -1, 1, 0, 0).bound(11), 5);
    }

    private static void boundBetweenPrimes() {
        CHECK.about("Promise 12", "The greatest number that divides the numbers of points modulo all primes 3 .. n");
        for (int[] row : DIVIDED) {
            TorsionDesk desk = divided(row);
            BigInteger shared = BigInteger.ZERO;
            for (int n = -2; n <= 97; n++) {
                if (Given.isPrime(n) && desk.discriminant() % n != 0) {
                    shared = shared.gcd(BigInteger.valueOf(desk.modulo(n)));
                }
                CHECK.due(name(row, 1) + "bound(" + n + ")", desk.bound(n), shared.intValue());
            }
        }
    }
}
