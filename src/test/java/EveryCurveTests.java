import java.math.BigInteger;
import java.util.ArrayList;
import java.util.HashMap;
import java.util.List;
import java.util.Map;

/**
 * Asks for every curve that there is, and holds the answers against sums on the
 * curve itself (in x and y, with fractions), against a search for points that
 * knows nothing of candidates, and against counts in x and y modulo primes.
 */
public final class EveryCurveTests {
    private static final Check CHECK = new Check();
    private static final int SINGULAR_CURVES = 1661;
    private static final int LARGEST_PRIME = 97;

    // Many curves share a discriminant or a cubic: what takes long is found once for each.
    private static final Map<Long, List<Long>> CANDIDATES = new HashMap<>();
    private static final Map<List<Long>, Integer> FINITE = new HashMap<>();
    private static final int[][][] ROOTS = roots();

    private EveryCurveTests() {
    }

    public static void main(String[] args) {
        int singular = 0;
        int number = 0;
        for (int a = -6; a <= 6; a++) {
            for (int b = -6; b <= 6; b++) {
                for (int c = -6; c <= 6; c++) {
                    for (int d = -6; d <= 6; d++) {
                        for (int e = -6; e <= 6; e++) {
                            number++;
                            if (!look(new Model(a, b, c, d, e), number)) {
                                singular++;
                            }
                        }
                    }
                }
            }
        }
        CHECK.due("singular curves", singular, SINGULAR_CURVES);
        CHECK.end();
    }

    /** Every part has an object of its own, since an object answers 512 calls and no more. */
    private static boolean look(Model model, int number) {
        TorsionDesk desk = new TorsionDesk();
        int count;
        try {
            count = desk.curve(model.a, model.b, model.c, model.d, model.e);
        } catch (ArithmeticException e) {
            CHECK.holds(model.name + " singular", model.discriminant() == 0);
            CHECK.due(model.name + " discriminant()", desk.discriminant(), 0);
            return false;
        }
        CHECK.due(model.name + " discriminant()", desk.discriminant(), model.discriminant());
        CHECK.due(model.name + " points()", desk.points(), count);
        boundaries(desk, model, count);
        if (count > 1) {
            Fraction[][] points = numbered(model.desk(), model, count);
            int[][] sums = added(model.desk(), model, points);
            multiplied(model.desk(), model, sums);
            structured(model.desk(), model, sums);
        }
        int found = FINITE.computeIfAbsent(model.cubic(), cubic -> model.countFinite());
        CHECK.due(model.name + " points found without candidates", count, found);
        candidates(model.desk(), model);
        counted(model.desk(), model, count);
        // What takes long is looked at for a share of the curves, spread by a prime.
        if (number % 101 == 0) {
            bounded(model.desk(), model);
        }
        return true;
    }

    /** For each prime p, and u and v below it, how many y there are for which p divides y * y + u * y - v. */
    private static int[][][] roots() {
        int[][][] all = new int[LARGEST_PRIME + 1][][];
        for (int p = 3; p <= LARGEST_PRIME; p++) {
            if (Given.isPrime(p)) {
                all[p] = new int[p][p];
                for (int u = 0; u < p; u++) {
                    for (int y = 0; y < p; y++) {
                        all[p][u][(y * y + u * y) % p]++;
                    }
                }
            }
        }
        return all;
    }

    /** What holds at the ends of every curve's rows, however long they are. */
    private static void boundaries(TorsionDesk desk, Model model, int count) {
        CHECK.due(model.name + " point(0, 2)", desk.point(0, 2), 1);
        CHECK.due(model.name + " point behind the last", desk.point(count, 2), 0);
        CHECK.due(model.name + " point before the first", desk.point(-1, 2), 0);
        CHECK.due(model.name + " sum behind the last", desk.sum(0, count), -1);
        CHECK.due(model.name + " sum before the first", desk.sum(-1, count - 1), -1);
        CHECK.due(model.name + " times behind the last", desk.times(0, count), -1);
        CHECK.due(model.name + " times before the first", desk.times(0, -1), -1);
        CHECK.due(model.name + " candidate before the first", desk.candidate(-1), -1);
        CHECK.due(model.name + " the first candidate", desk.candidate(0), 1);
        CHECK.due(model.name + " bound(2)", desk.bound(2), 0);
        CHECK.due(model.name + " bound(98)", desk.bound(98), 0);
        CHECK.due(model.name + " m times n", desk.structure(0) * desk.structure(1), count);
        CHECK.due(model.name + " no such what", desk.structure(4), -1);
        if (model.cubicAt(0) != 0) {
            CHECK.due(model.name + " find(0, 0)", desk.find(0, 0), -1);
        }
        if (desk.structure(0) == 1) {
            CHECK.due(model.name + " P", desk.structure(2), 0);
        }
    }

    /** Looks at every point, and answers them in x and y; O is null. */
    private static Fraction[][] numbered(TorsionDesk desk, Model model, int count) {
        Fraction[][] points = new Fraction[count][];
        for (int k = 1; k < count; k++) {
            long x = desk.point(k, 0);
            long y = desk.point(k, 1);
            CHECK.due(model.name + " point " + k + " lies on it", y * y, model.cubicAt(x));
            CHECK.due(model.name + " find of point " + k, desk.find((int) x, (int) y), k);
            if (k > 1) {
                long before = desk.point(k - 1, 0);
                boolean rises = before < x || before == x && desk.point(k - 1, 1) < y;
                CHECK.holds(model.name + " point " + k + " comes behind the one before", rises);
            }
            points[k] = fractions(desk, model, k);
            CHECK.holds(model.name + " point " + k + " in x", points[k][0].is(x, 4));
            CHECK.holds(model.name + " point " + k + " in y", points[k][1].is(y - model.a * x - 4 * model.c, 8));
            CHECK.due(model.name + " order of point " + k, desk.point(k, 2), model.orderOf(points[k]));
        }
        return points;
    }

    private static Fraction[] fractions(TorsionDesk desk, Model model, int k) {
        int[] parts = {desk.point(k, 3), desk.point(k, 4), desk.point(k, 5), desk.point(k, 6)};
        for (int i = 0; i < 4; i += 2) {
            BigInteger shared = BigInteger.valueOf(parts[i]).gcd(BigInteger.valueOf(parts[i + 1]));
            CHECK.holds(model.name + " point " + k + " has nothing in common", shared.equals(BigInteger.ONE));
            CHECK.holds(model.name + " point " + k + " has its denominator above 0", parts[i + 1] > 0);
        }
        return new Fraction[] {Fraction.of(parts[0], parts[1]), Fraction.of(parts[2], parts[3])};
    }

    /** Looks at the sums of all points, and answers them. */
    private static int[][] added(TorsionDesk desk, Model model, Fraction[][] points) {
        int count = points.length;
        int[][] sums = new int[count][count];
        for (int j = 0; j < count; j++) {
            for (int k = 0; k < count; k++) {
                int got = desk.sum(j, k);
                boolean right = got >= 0 && got < count && same(model.add(points[j], points[k]), points[got]);
                CHECK.holds(model.name + " sum(" + j + ", " + k + ") = " + got, right);
                sums[j][k] = right ? got : 0;
            }
        }
        return sums;
    }

    private static void multiplied(TorsionDesk desk, Model model, int[][] sums) {
        for (int k = 0; k < sums.length; k++) {
            int reached = 0;
            int back = 0;
            for (int n = 0; n <= 13; n++) {
                CHECK.due(model.name + " times(" + n + ", " + k + ")", desk.times(n, k), reached);
                CHECK.due(model.name + " times(" + -n + ", " + k + ")", desk.times(-n, k), back);
                reached = sums[reached][k];
                back = sums[back][negative(sums, k)];
            }
        }
    }

    private static int negative(int[][] sums, int k) {
        int negative = 0;
        while (negative < sums.length - 1 && sums[k][negative] != 0) {
            negative++;
        }
        return negative;
    }

    private static void structured(TorsionDesk desk, Model model, int[][] sums) {
        int count = sums.length;
        int n = 1;
        int q = 0;
        for (int k = 0; k < count; k++) {
            if (desk.point(k, 2) > n) {
                n = desk.point(k, 2);
                q = k;
            }
        }
        int m = count / n;
        int p = 0;
        while (p < count && !(desk.point(p, 2) == m && makeAll(sums, p, m, q, n))) {
            p++;
        }
        CHECK.due(model.name + " m", desk.structure(0), m);
        CHECK.due(model.name + " n", desk.structure(1), n);
        CHECK.due(model.name + " P", desk.structure(2), p);
        CHECK.due(model.name + " Q", desk.structure(3), q);
        CHECK.due(model.name + " m divides n", n % m, 0);
    }

    private static boolean makeAll(int[][] sums, int p, int m, int q, int n) {
        boolean[] met = new boolean[m * n];
        int ofP = 0;
        for (int i = 0; i < m; i++) {
            int sum = ofP;
            for (int j = 0; j < n; j++) {
                if (met[sum]) {
                    return false;
                }
                met[sum] = true;
                sum = sums[sum][q];
            }
            ofP = sums[ofP][p];
        }
        return true;
    }

    private static void candidates(TorsionDesk desk, Model model) {
        List<Long> want = CANDIDATES.computeIfAbsent(Math.abs(model.discriminant()), EveryCurveTests::squareDivisors);
        for (int k = 0; k < want.size(); k++) {
            CHECK.due(model.name + " candidate " + k, desk.candidate(k), want.get(k));
        }
        CHECK.due(model.name + " candidate behind the last", desk.candidate(want.size()), -1);
    }

    private static List<Long> squareDivisors(long size) {
        List<Long> divisors = new ArrayList<>();
        for (long t = 1; t * t <= size; t++) {
            if (size % (t * t) == 0) {
                divisors.add(t);
            }
        }
        return divisors;
    }

    private static void counted(TorsionDesk desk, Model model, int count) {
        int shared = 0;
        for (int p = 3; p <= LARGEST_PRIME; p++) {
            if (ROOTS[p] != null && model.discriminant() % p != 0) {
                int pairs = model.countModulo(p);
                CHECK.due(model.name + " modulo " + p, desk.modulo(p), pairs);
                shared = common(shared, pairs);
            }
        }
        CHECK.due(model.name + " bound(97)", desk.bound(LARGEST_PRIME), shared);
        CHECK.due(model.name + " the bound is a multiple of the points", shared % count, 0);
    }

    private static void bounded(TorsionDesk desk, Model model) {
        int shared = 0;
        for (int n = 0; n <= LARGEST_PRIME; n++) {
            if (ROOTS[n] != null && model.discriminant() % n != 0) {
                shared = common(shared, model.countModulo(n));
            }
            CHECK.due(model.name + " bound(" + n + ")", desk.bound(n), shared);
        }
    }

    private static int common(int one, int other) {
        return BigInteger.valueOf(one).gcd(BigInteger.valueOf(other)).intValue();
    }

    private static boolean same(Fraction[] one, Fraction[] other) {
        if (one == null || other == null) {
            return one == other;
        }
        return one[0].equalTo(other[0]) && one[1].equalTo(other[1]);
    }

    /** A curve in its own x and y; the point O is null. */
    private static final class Model {
        final int a;
        final int b;
        final int c;
        final int d;
        final int e;
        final String name;

        Model(int a, int b, int c, int d, int e) {
            this.a = a;
            this.b = b;
            this.c = c;
            this.d = d;
            this.e = e;
            name = "curve(" + a + ", " + b + ", " + c + ", " + d + ", " + e + ")";
        }

        long discriminant() {
            return Given.discriminantOf(a, b, c, d, e);
        }

        long cubicAt(long x) {
            return x * x * x + (a * a + 4 * b) * x * x + (16 * d + 8 * a * c) * x + 16 * c * c + 64 * e;
        }

        List<Long> cubic() {
            return List.of((long) a * a + 4 * b, 16L * d + 8 * a * c, 16L * c * c + 64 * e);
        }

        TorsionDesk desk() {
            TorsionDesk desk = new TorsionDesk();
            desk.curve(a, b, c, d, e);
            return desk;
        }

        Fraction[] add(Fraction[] one, Fraction[] other) {
            if (one == null || other == null) {
                return one == null ? other : one;
            }
            Fraction x = one[0];
            Fraction y = one[1];
            Fraction slope;
            if (x.equalTo(other[0])) {
                Fraction run = y.by(2).plus(x.by(a)).plus(Fraction.of(c, 1));
                if (run.isZero() || !y.equalTo(other[1])) {
                    return null;
                }
                slope = x.times(x).by(3).plus(x.by(2 * b)).plus(Fraction.of(d, 1)).plus(y.by(-a)).over(run);
            } else {
                slope = other[1].plus(y.by(-1)).over(other[0].plus(x.by(-1)));
            }
            Fraction z = slope.times(slope).plus(slope.by(a)).plus(Fraction.of(-b, 1))
                .plus(x.by(-1)).plus(other[0].by(-1));
            Fraction w = slope.times(x.plus(z.by(-1))).plus(y.by(-1)).plus(z.by(-a)).plus(Fraction.of(-c, 1));
            return new Fraction[] {z, w};
        }

        /** The order, 0 if there is none up to 12; that a multiple has no whole X = 4 * x shows it sooner. */
        int orderOf(Fraction[] point) {
            Fraction[] reached = point;
            for (int order = 1; order <= 12; order++) {
                if (reached == null) {
                    return order;
                }
                if (!reached[0].by(4).isWhole()) {
                    return 0;
                }
                reached = add(reached, point);
            }
            return 0;
        }

        int countFinite() {
            int count = 1;
            for (long x = -200; x <= 3000; x++) {
                long square = cubicAt(x);
                long y = square < 0 ? -1 : Math.round(Math.sqrt((double) square));
                if (y >= 0 && y * y == square) {
                    Fraction[] point = {Fraction.of(x, 4), Fraction.of(y - a * x - 4 * c, 8)};
                    if (orderOf(point) > 0) {
                        count += y == 0 ? 1 : 2;
                    }
                }
            }
            return count;
        }

        int countModulo(int p) {
            int count = 1;
            for (int x = 0; x < p; x++) {
                int u = Math.floorMod(a * x + c, p);
                int v = Math.floorMod(((x + b) * x + d) * x + e, p);
                count += ROOTS[p][u][v];
            }
            return count;
        }
    }

    private static final class Fraction {
        final BigInteger top;
        final BigInteger bottom;

        private Fraction(BigInteger top, BigInteger bottom) {
            BigInteger shared = top.gcd(bottom);
            BigInteger divisor = bottom.signum() < 0 ? shared.negate() : shared;
            this.top = top.divide(divisor);
            this.bottom = bottom.divide(divisor);
        }

        static Fraction of(long top, long bottom) {
            return new Fraction(BigInteger.valueOf(top), BigInteger.valueOf(bottom));
        }

        Fraction plus(Fraction other) {
            return new Fraction(top.multiply(other.bottom).add(other.top.multiply(bottom)),
                bottom.multiply(other.bottom));
        }

        Fraction times(Fraction other) {
            return new Fraction(top.multiply(other.top), bottom.multiply(other.bottom));
        }

        Fraction by(long number) {
            return new Fraction(top.multiply(BigInteger.valueOf(number)), bottom);
        }

        Fraction over(Fraction other) {
            return new Fraction(top.multiply(other.bottom), bottom.multiply(other.top));
        }

        boolean isWhole() {
            return bottom.equals(BigInteger.ONE);
        }

        boolean isZero() {
            return top.signum() == 0;
        }

        boolean equalTo(Fraction other) {
            return top.equals(other.top) && bottom.equals(other.bottom);
        }

        boolean is(long otherTop, long otherBottom) {
            return equalTo(of(otherTop, otherBottom));
        }
    }
}
