import java.math.BigInteger;

/** What stands before the promises: a test for each term, by the document's own formulas in X and Y. */
public final class TermTests {
    private static final Check CHECK = new Check();

    /** Curves of every structure, those with the farthest discriminants and points, and with points x, y not whole. */
    private static final int[][] CURVES = curves();

    private TermTests() {
    }

    public static void main(String[] args) {
        coefficients();
        cubic();
        discriminant();
        singular();
        pointsLieOnTheCurve();
        pointsAreToldByXAndY();
        zeroIsAPoint();
        sumsOfZero();
        sumsOfOpposites();
        sumsOfTheSame();
        sumsOfOthers();
        orders();
        wholeNumbers();
        howManyAndWhichOrders();
        numbered();
        structured();
        first();
        modulo();
        none();
        CHECK.end();
    }

    private static int[][] curves() {
        int[][] others = {
            {-6, 6, 6, 6, 6}, {-6, 6, 4, -6, -6}, {-6, 6, 4, -4, -4}, {-6, 1, 2, -6, 0}, {-5, -3, 4, -5, 5},
            {-5, 1, -4, 3, -4}, {5, -6, -4, -5, -4}, {6, 5, 5, 0, 0}, {5, -1, 5, -6, -3}, {6, 5, -4, -3, -4}
        };
        int[][] all = new int[Given.EVERY_STRUCTURE.length + others.length][];
        System.arraycopy(Given.EVERY_STRUCTURE, 0, all, 0, Given.EVERY_STRUCTURE.length);
        System.arraycopy(others, 0, all, Given.EVERY_STRUCTURE.length, others.length);
        return all;
    }

    private static String name(int[] k) {
        return "curve(" + k[0] + ", " + k[1] + ", " + k[2] + ", " + k[3] + ", " + k[4] + ") ";
    }

    private static long squareOf(int[] k) {
        return k[0] * k[0] + 4 * k[1];
    }

    private static long linearOf(int[] k) {
        return 16 * k[3] + 8 * k[0] * k[2];
    }

    private static long constantOf(int[] k) {
        return 16 * k[2] * k[2] + 64 * k[4];
    }

    private static long cubicAt(int[] k, long x) {
        return x * x * x + squareOf(k) * x * x + linearOf(k) * x + constantOf(k);
    }

    private static void coefficients() {
        CHECK.about("Terms", "A CURVE has COEFFICIENTS a, b, c, d, e, each -6 .. 6.");
        for (int place = 0; place < 5; place++) {
            for (int number = -8; number <= 8; number++) {
                int[] k = {1, 1, 1, -5, 2};
                k[place] = number;
                boolean small = number >= -6 && number <= 6;
                boolean isSingular = Given.discriminantOf(k[0], k[1], k[2], k[3], k[4]) == 0;
                Class<?> want = !small ? Check.ARGUMENT : isSingular ? Check.ARITHMETIC : null;
                CHECK.thrown(name(k), want, () -> Given.curve(k));
            }
        }
    }

    private static void cubic() {
        CHECK.about("Terms", "its CUBIC is g(X) = X * X * X + A * X * X + B * X + C");
        // Each coefficient alone beside e = 1 moves the cubic, and with it the points of order 2 and the discriminant.
        CHECK.due("a", Given.curve(1, 0, 0, 0, 1).discriminant(), -4 * 64 - 27 * 64 * 64);
        CHECK.due("b", Given.curve(0, 1, 0, 0, 1).discriminant(), -4 * 64 * 64 - 27 * 64 * 64);
        CHECK.due("c", Given.curve(0, 0, 1, 0, 1).discriminant(), -27 * 80 * 80);
        CHECK.due("d", Given.curve(0, 0, 0, 1, 1).discriminant(), -4 * 16 * 16 * 16 - 27 * 64 * 64);
        CHECK.due("e", Given.curve(0, 0, 0, 0, 2).discriminant(), -27 * 128 * 128);
        for (int[] k : CURVES) {
            TorsionDesk desk = Given.curve(k);
            for (int x = -70; x <= 70; x++) {
                CHECK.holds(name(k) + "(" + x + ", 0) if g is 0 there", desk.find(x, 0) > 0 == (cubicAt(k, x) == 0));
            }
        }
    }

    private static void discriminant() {
        CHECK.about("Terms", "A * A * B * B - 4 * B * B * B - 4 * A * A * A * C - 27 * C * C + 18 * A * B * C");
        for (int[] k : CURVES) {
            BigInteger a = BigInteger.valueOf(squareOf(k));
            BigInteger b = BigInteger.valueOf(linearOf(k));
            BigInteger c = BigInteger.valueOf(constantOf(k));
            BigInteger want = a.pow(2).multiply(b.pow(2))
                .subtract(b.pow(3).multiply(BigInteger.valueOf(4)))
                .subtract(a.pow(3).multiply(c).multiply(BigInteger.valueOf(4)))
                .subtract(c.pow(2).multiply(BigInteger.valueOf(27)))
                .add(a.multiply(b).multiply(c).multiply(BigInteger.valueOf(18)));
            CHECK.due(name(k) + "discriminant()", Given.curve(k).discriminant(), want.longValueExact());
        }
    }

    private static void singular() {
        CHECK.about("Terms", "It is SINGULAR if that is 0.");
        for (int b = -6; b <= 6; b++) {
            int[] twice = {0, b, 0, 0, 0};
            CHECK.thrown(name(twice), Check.ARITHMETIC, () -> Given.curve(twice));
            int[] once = {0, b, 0, 1, 0};
            boolean zero = b == 2 || b == -2;
            CHECK.thrown(name(once), zero ? Check.ARITHMETIC : null, () -> Given.curve(once));
        }
    }

    private static void pointsLieOnTheCurve() {
        CHECK.about("What it is", "Curves y * y + a * x * y + c * y = x * x * x + b * x * x + d * x + e");
        for (int[] k : CURVES) {
            TorsionDesk desk = Given.curve(k);
            for (int number = 1; number < desk.points(); number++) {
                // In eighths of y and quarters of x, both sides times 64.
                long x = desk.point(number, 3) * (4L / desk.point(number, 4));
                long y = desk.point(number, 5) * (8L / desk.point(number, 6));
                long left = y * y + 2 * k[0] * x * y + 8 * k[2] * y;
                long right = x * x * x + 4 * k[1] * x * x + 16 * k[3] * x + 64 * k[4];
                CHECK.due(name(k) + "point " + number + " in x and y", left, right);
            }
        }
    }

    private static void pointsAreToldByXAndY() {
        CHECK.about("Terms", "X = 4 * x and Y = 4 * (2 * y + a * x + c), for which Y * Y = g(X)");
        for (int[] k : CURVES) {
            TorsionDesk desk = Given.curve(k);
            for (int number = 1; number < desk.points(); number++) {
                long bigX = desk.point(number, 0);
                long bigY = desk.point(number, 1);
                int below = desk.point(number, 4);
                int belowY = desk.point(number, 6);
                long x = desk.point(number, 3);
                long y = desk.point(number, 5);
                CHECK.due(name(k) + "X of point " + number, bigX * below, 4 * x);
                long want = 4 * (2 * y * below + k[0] * x * belowY + (long) k[2] * below * belowY);
                CHECK.due(name(k) + "Y of point " + number, bigY * below * belowY, want);
                CHECK.due(name(k) + "Y * Y of point " + number, bigY * bigY, cubicAt(k, bigX));
            }
        }
    }

    private static void zeroIsAPoint() {
        CHECK.about("Terms", "and there is the point O");
        for (int[] k : CURVES) {
            CHECK.holds(name(k) + "points()", Given.curve(k).points() >= 1);
            CHECK.due(name(k) + "point(0, 2)", Given.curve(k).point(0, 2), 1);
        }
    }

    private static void sumsOfZero() {
        CHECK.about("Terms", "SUMS: O is the zero.");
        for (int[] k : CURVES) {
            TorsionDesk desk = Given.curve(k);
            for (int number = 0; number < desk.points(); number++) {
                CHECK.due(name(k) + "O and " + number, desk.sum(0, number), number);
                CHECK.due(name(k) + number + " and O", desk.sum(number, 0), number);
            }
        }
    }

    private static void sumsOfOpposites() {
        CHECK.about("Terms", "(X, Y) and (X, -Y) give O.");
        for (int[] k : CURVES) {
            TorsionDesk desk = Given.curve(k);
            for (int number = 1; number < desk.points(); number++) {
                int opposite = desk.find(desk.point(number, 0), -desk.point(number, 1));
                CHECK.holds(name(k) + "has the opposite of point " + number, opposite > 0);
                CHECK.due(name(k) + number + " and " + opposite, desk.sum(number, opposite), 0);
            }
        }
    }

    private static void sumsOfTheSame() {
        CHECK.about("Terms", "let s be (3 * X * X + 2 * A * X + B) / (2 * Y) if both points are the same");
        for (int[] k : CURVES) {
            TorsionDesk desk = Given.curve(k);
            for (int number = 1; number < desk.points(); number++) {
                long x = desk.point(number, 0);
                long y = desk.point(number, 1);
                if (y != 0) {
                    sumIs(desk, k, number, number, 3 * x * x + 2 * squareOf(k) * x + linearOf(k), 2 * y);
                }
            }
        }
    }

    private static void sumsOfOthers() {
        CHECK.about("Terms", "else (Y' - Y) / (X' - X) for (X, Y) and (X', Y')");
        for (int[] k : CURVES) {
            int count = Given.curve(k).points();
            for (int one = 1; one < count; one++) {
                TorsionDesk desk = Given.curve(k);
                for (int other = 1; other < count; other++) {
                    long run = desk.point(other, 0) - desk.point(one, 0);
                    if (run != 0) {
                        sumIs(desk, k, one, other, desk.point(other, 1) - desk.point(one, 1), run);
                    }
                }
            }
        }
    }

    /** Holds the sum against Z and its Y-number for s = rise / run, both sides times run until they are whole. */
    private static void sumIs(TorsionDesk desk, int[] k, int one, int other, long rise, long run) {
        String call = name(k) + "sum(" + one + ", " + other + ")";
        int sum = desk.sum(one, other);
        CHECK.holds(call + " is a point, and not O", sum > 0);
        long x = desk.point(one, 0);
        long z = desk.point(sum, 0);
        long rest = squareOf(k) + x + desk.point(other, 0);
        CHECK.due(call + ": Z", z * run * run, rise * rise - rest * run * run);
        long want = -(desk.point(one, 1) * run + rise * (z - x));
        CHECK.due(call + ": its Y-number", desk.point(sum, 1) * run, want);
    }

    private static void orders() {
        CHECK.about("Terms", "The ORDER of a point is the least k above 0 for which k times it is O");
        for (int[] k : CURVES) {
            TorsionDesk desk = Given.curve(k);
            for (int number = 0; number < desk.points(); number++) {
                int order = desk.point(number, 2);
                CHECK.holds(name(k) + "order of point " + number + " above 0", order > 0);
                for (int n = 1; n <= order; n++) {
                    boolean zero = desk.times(n, number) == 0;
                    CHECK.holds(name(k) + n + " times point " + number, zero == (n == order));
                }
            }
        }
    }

    private static void wholeNumbers() {
        CHECK.about("Terms", "Y is 0, or Y * Y divides the discriminant");
        for (int[] k : CURVES) {
            TorsionDesk desk = Given.curve(k);
            for (int number = 1; number < desk.points(); number++) {
                long y = desk.point(number, 1);
                boolean held = y == 0 || desk.discriminant() % (y * y) == 0;
                CHECK.holds(name(k) + "so for point " + number, held);
            }
        }
    }

    private static void howManyAndWhichOrders() {
        CHECK.about("Terms", "there are at most 16, and their orders are 1 .. 10 and 12 (so it is known)");
        for (int[] k : CURVES) {
            TorsionDesk desk = Given.curve(k);
            int count = desk.points();
            CHECK.holds(name(k) + "points()", count >= 1 && count <= 16);
            for (int number = 0; number < count; number++) {
                int order = desk.point(number, 2);
                CHECK.holds(name(k) + "order of point " + number, order >= 1 && order <= 12 && order != 11);
            }
        }
    }

    private static void numbered() {
        CHECK.about("Terms", "O is 0, the others follow by rising X, those with the same X by rising Y.");
        int[][] six = {{-4, 0}, {0, -8}, {0, 8}, {8, -24}, {8, 24}};
        numbersAre("six", Given.six(), six);
        int[][] twelve = {
            {-32, 0}, {-20, -60}, {-20, 60}, {-8, -24}, {-8, 24}, {-5, 0}, {0, 0}, {4, -36}, {4, 36}, {40, -360},
            {40, 360}
        };
        numbersAre("twelve", Given.twelve(), twelve);
    }

    private static void numbersAre(String of, TorsionDesk desk, int[][] points) {
        CHECK.due("of " + of + ", points()", desk.points(), points.length + 1);
        for (int number = 1; number <= points.length; number++) {
            int[] point = points[number - 1];
            CHECK.due("of " + of + ", point(" + number + ", 0)", desk.point(number, 0), point[0]);
            CHECK.due("of " + of + ", point(" + number + ", 1)", desk.point(number, 1), point[1]);
            CHECK.due("of " + of + ", find(" + point[0] + ", " + point[1] + ")", desk.find(point[0], point[1]), number);
        }
    }

    private static void structured() {
        CHECK.about("Terms", "i times P and j times Q, for 0 <= i < m, 0 <= j < n, give each of them once");
        for (int[] k : CURVES) {
            TorsionDesk desk = Given.curve(k);
            int m = desk.structure(0);
            int n = desk.structure(1);
            int p = desk.structure(2);
            int q = desk.structure(3);
            CHECK.due(name(k) + "m times n", m * n, desk.points());
            CHECK.due(name(k) + "m dividing n", n % m, 0);
            CHECK.due(name(k) + "the order of P", desk.point(p, 2), m);
            CHECK.due(name(k) + "the order of Q", desk.point(q, 2), n);
            boolean[] met = new boolean[m * n];
            for (int i = 0; i < m; i++) {
                for (int j = 0; j < n; j++) {
                    int sum = desk.sum(desk.times(i, p), desk.times(j, q));
                    CHECK.holds(name(k) + i + " times P and " + j + " times Q, once", !met[sum]);
                    met[sum] = true;
                }
            }
        }
    }

    private static void first() {
        CHECK.about("Terms", "n is the greatest order; Q the first point, by numbers, that has it");
        for (int[] k : CURVES) {
            TorsionDesk desk = Given.curve(k);
            int n = desk.structure(1);
            int q = desk.structure(3);
            for (int number = 0; number < desk.points(); number++) {
                int order = desk.point(number, 2);
                CHECK.holds(name(k) + "order of point " + number + " beside Q", number < q ? order < n : order <= n);
            }
        }
    }

    private static void modulo() {
        CHECK.about("Terms", "as many points as there are pairs X, Y, 0 .. p - 1, with Y * Y - g(X) divided by p");
        for (int[] k : CURVES) {
            TorsionDesk desk = Given.curve(k);
            for (int p = 3; p <= 97; p++) {
                if (Given.isPrime(p) && desk.discriminant() % p != 0) {
                    CHECK.due(name(k) + "modulo(" + p + ")", desk.modulo(p), pairsOf(k, p) + 1);
                }
            }
        }
    }

    private static int pairsOf(int[] k, int p) {
        int pairs = 0;
        for (long x = 0; x < p; x++) {
            for (long y = 0; y < p; y++) {
                if ((y * y - cubicAt(k, x)) % p == 0) {
                    pairs++;
                }
            }
        }
        return pairs;
    }

    private static void none() {
        CHECK.about("Terms", "NONE = -1: Nothing there.");
        CHECK.due("NONE", TorsionDesk.NONE, -1);
        CHECK.due("candidate(0) without a curve", new TorsionDesk().candidate(0), TorsionDesk.NONE);
        CHECK.due("find(1, 1)", Given.six().find(1, 1), TorsionDesk.NONE);
        CHECK.due("sum(0, 6)", Given.six().sum(0, 6), TorsionDesk.NONE);
        CHECK.due("times(2, 6)", Given.six().times(2, 6), TorsionDesk.NONE);
        CHECK.due("structure(4)", Given.six().structure(4), TorsionDesk.NONE);
    }
}
