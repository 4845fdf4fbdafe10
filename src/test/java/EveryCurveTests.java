import java.math.BigInteger;

/**
 * Asks for every curve that there is, and holds the answers against sums on the
 * curve itself (in x and y, with fractions), against a search for points that
 * knows nothing of candidates, and against counts made pair by pair.
 */
public final class EveryCurveTests {
    private static final Check CHECK = new Check();
    private static final int SINGULAR_CURVES = 1661;

    private EveryCurveTests() {
    }

    public static void main(String[] args) {
        TorsionDesk desk = new TorsionDesk();
        int singular = 0;
        int number = 0;
        for (int a = -6; a <= 6; a++) {
            for (int b = -6; b <= 6; b++) {
                for (int c = -6; c <= 6; c++) {
                    for (int d = -6; d <= 6; d++) {
                        for (int e = -6; e <= 6; e++) {
                            number++;
                            if (!look(desk, new int[] {a, b, c, d, e}, number)) {
                                singular++;
                            }
                        }
                    }
                }
            }
        }
        CHECK.due("singular curves", singular, SINGULAR_CURVES);
        CHECK.end();
    }

    private static boolean look(TorsionDesk desk, int[] k, int number) {
        Model model = new Model(k[0], k[1], k[2], k[3], k[4]);
        int count;
        try {
            count = desk.curve(k[0], k[1], k[2], k[3], k[4]);
        } catch (ArithmeticException e) {
            CHECK.holds(model.name + " singular", model.discriminant() == 0);
            return false;
        }
        CHECK.due(model.name + " discriminant()", desk.discriminant(), model.discriminant());
        CHECK.due(model.name + " points()", desk.points(), count);
        if (count > 1) {
            numbered(desk, model, count);
            added(desk, model, count);
            structured(desk, model, count);
        }
        // What takes long is looked at for a share of the curves, spread by a prime.
        if (number % 101 == 0) {
            CHECK.due(model.name + " points found without candidates", count, model.countFinite());
            candidates(desk, model);
            counted(desk, model, count);
        }
        return true;
    }

    private static void numbered(TorsionDesk desk, Model model, int count) {
        for (int k = 1; k < count; k++) {
            long x = desk.point(k, 0);
            long y = desk.point(k, 1);
            CHECK.due(model.name + " point " + k + " lies on it", y * y, model.cubicAt(x));
            CHECK.due(model.name + " find of point " + k, desk.find((int) x, (int) y), k);
            if (k > 1) {
                long before = desk.point(k - 1, 0);
                boolean rises = before < x || before == x && desk.point(k - 1, 1) < y;
                CHECK.holds(model.name + " point " + k + " comes behind the one before", rises);
            }
            Fraction[] point = model.read(desk, k);
            CHECK.holds(model.name + " point " + k + " in x", point[0].is(x, 4));
            CHECK.holds(model.name + " point " + k + " in y", point[1].is(y - model.a * x - 4 * model.c, 8));
            CHECK.due(model.name + " order of point " + k, desk.point(k, 2), model.orderOf(point));
        }
    }

    private static void added(TorsionDesk desk, Model model, int count) {
        for (int j = 0; j < count; j++) {
            for (int k = 0; k < count; k++) {
                Fraction[] want = model.add(model.read(desk, j), model.read(desk, k));
                int got = desk.sum(j, k);
                CHECK.holds(model.name + " sum(" + j + ", " + k + ") = " + got, same(want, model.read(desk, got)));
            }
            int reached = 0;
            int back = 0;
            for (int n = 0; n <= 13; n++) {
                CHECK.due(model.name + " times(" + n + ", " + j + ")", desk.times(n, j), reached);
                CHECK.due(model.name + " times(" + -n + ", " + j + ")", desk.times(-n, j), back);
                reached = desk.sum(reached, j);
                back = desk.sum(back, negative(desk, j));
            }
        }
    }

    private static int negative(TorsionDesk desk, int k) {
        return k == 0 ? 0 : desk.find(desk.point(k, 0), -desk.point(k, 1));
    }

    private static void structured(TorsionDesk desk, Model model, int count) {
        int n = 1;
        int q = 0;
        for (int k = 0; k < count; k++) {
            if (desk.point(k, 2) > n) {
                n = desk.point(k, 2);
                q = k;
            }
        }
        int m = count / n;
        int p = 0;
        while (p < count && !(desk.point(p, 2) == m && makeAll(desk, p, m, q, n))) {
            p++;
        }
        CHECK.due(model.name + " m", desk.structure(0), m);
        CHECK.due(model.name + " n", desk.structure(1), n);
        CHECK.due(model.name + " P", desk.structure(2), p);
        CHECK.due(model.name + " Q", desk.structure(3), q);
        CHECK.due(model.name + " m divides n", n % m, 0);
    }

    private static boolean makeAll(TorsionDesk desk, int p, int m, int q, int n) {
        boolean[] met = new boolean[m * n];
        for (int i = 0; i < m; i++) {
            for (int j = 0; j < n; j++) {
                int sum = desk.sum(desk.times(i, p), desk.times(j, q));
                if (met[sum]) {
                    return false;
                }
                met[sum] = true;
            }
        }
        return true;
    }

    private static void candidates(TorsionDesk desk, Model model) {
        long size = Math.abs(model.discriminant());
        int k = 0;
        for (long t = 1; t * t <= size; t++) {
            if (size % (t * t) == 0) {
                CHECK.due(model.name + " candidate(" + k + ")", desk.candidate(k), t);
                k++;
            }
        }
        CHECK.due(model.name + " candidate(" + k + ")", desk.candidate(k), -1);
    }

    private static void counted(TorsionDesk desk, Model model, int count) {
        BigInteger shared = BigInteger.ZERO;
        for (int p = 0; p <= 97; p++) {
            if (p > 2 && BigInteger.valueOf(p).isProbablePrime(30) && model.discriminant() % p != 0) {
                int pairs = model.countModulo(p);
                CHECK.due(model.name + " modulo(" + p + ")", desk.modulo(p), pairs);
                shared = shared.gcd(BigInteger.valueOf(pairs));
            }
            CHECK.due(model.name + " bound(" + p + ")", desk.bound(p), shared.intValue());
        }
        CHECK.due(model.name + " the bound is a multiple of the points", desk.bound(97) % count, 0);
    }

    private static boolean same(Fraction[] one, Fraction[] other) {
        if (one == null || other == null) {
            return one == other;
        }
        return one[0].equalTo(other[0]) && one[1].equalTo(other[1]);
    }

    /** A curve in its own x and y; the point O is null. */
    private static final class Model {
        final int a;
        final int b;
        final int c;
        final int d;
        final int e;
        final String name;

        Model(int a, int b, int c, int d, int e) {
            this.a = a;
            this.b = b;
            this.c = c;
            this.d = d;
            this.e = e;
            name = "curve(" + a + ", " + b + ", " + c + ", " + d + ", " + e + ")";
        }

        long discriminant() {
            long b2 = a * a + 4 * b;
            long b4 = a * c + 2 * d;
            long b6 = c * c + 4 * e;
            long b8 = a * a * e + 4 * b * e - a * c * d + b * c * c - d * d;
            return 256 * (-b2 * b2 * b8 - 8 * b4 * b4 * b4 - 27 * b6 * b6 + 9 * b2 * b4 * b6);
        }

        long cubicAt(long x) {
            return x * x * x + (a * a + 4 * b) * x * x + (16 * d + 8 * a * c) * x + 16 * c * c + 64 * e;
        }

        Fraction[] read(TorsionDesk desk, int k) {
            if (k <= 0) {
                return null;
            }
            return new Fraction[] {
                Fraction.of(desk.point(k, 3), desk.point(k, 4)), Fraction.of(desk.point(k, 5), desk.point(k, 6))
            };
        }

        Fraction[] add(Fraction[] one, Fraction[] other) {
            if (one == null || other == null) {
                return one == null ? other : one;
            }
            Fraction x = one[0];
            Fraction y = one[1];
            Fraction slope;
            if (x.equalTo(other[0])) {
                Fraction run = y.by(2).plus(x.by(a)).plus(Fraction.of(c, 1));
                if (run.isZero() || !y.equalTo(other[1])) {
                    return null;
                }
                slope = x.times(x).by(3).plus(x.by(2 * b)).plus(Fraction.of(d, 1)).plus(y.by(-a)).over(run);
            } else {
                slope = other[1].plus(y.by(-1)).over(other[0].plus(x.by(-1)));
            }
            Fraction z = slope.times(slope).plus(slope.by(a)).plus(Fraction.of(-b, 1))
                .plus(x.by(-1)).plus(other[0].by(-1));
            Fraction w = slope.times(x.plus(z.by(-1))).plus(y.by(-1)).plus(z.by(-a)).plus(Fraction.of(-c, 1));
            return new Fraction[] {z, w};
        }

        /** The order, 0 if it is above 12 or there is none. */
        int orderOf(Fraction[] point) {
            Fraction[] reached = point;
            for (int order = 1; order <= 12; order++) {
                if (reached == null) {
                    return order;
                }
                reached = add(reached, point);
            }
            return 0;
        }

        int countFinite() {
            int count = 1;
            for (long x = -200; x <= 3000; x++) {
                long square = cubicAt(x);
                long y = square < 0 ? -1 : Math.round(Math.sqrt((double) square));
                if (y >= 0 && y * y == square) {
                    Fraction[] point = {Fraction.of(x, 4), Fraction.of(y - a * x - 4 * c, 8)};
                    if (orderOf(point) > 0) {
                        count += y == 0 ? 1 : 2;
                    }
                }
            }
            return count;
        }

        int countModulo(int p) {
            int count = 1;
            for (int x = 0; x < p; x++) {
                for (int y = 0; y < p; y++) {
                    long left = y * y + a * x * y + c * y;
                    long right = x * x * x + b * x * x + d * x + e;
                    if ((left - right) % p == 0) {
                        count++;
                    }
                }
            }
            return count;
        }
    }

    private static final class Fraction {
        final BigInteger top;
        final BigInteger bottom;

        private Fraction(BigInteger top, BigInteger bottom) {
            BigInteger shared = top.gcd(bottom);
            BigInteger divisor = bottom.signum() < 0 ? shared.negate() : shared;
            this.top = top.divide(divisor);
            this.bottom = bottom.divide(divisor);
        }

        static Fraction of(long top, long bottom) {
            return new Fraction(BigInteger.valueOf(top), BigInteger.valueOf(bottom));
        }

        Fraction plus(Fraction other) {
            return new Fraction(top.multiply(other.bottom).add(other.top.multiply(bottom)),
                bottom.multiply(other.bottom));
        }

        Fraction times(Fraction other) {
            return new Fraction(top.multiply(other.top), bottom.multiply(other.bottom));
        }

        Fraction by(long number) {
            return new Fraction(top.multiply(BigInteger.valueOf(number)), bottom);
        }

        Fraction over(Fraction other) {
            return new Fraction(top.multiply(other.bottom), bottom.multiply(other.top));
        }

        boolean isZero() {
            return top.signum() == 0;
        }

        boolean equalTo(Fraction other) {
            return top.equals(other.top) && bottom.equals(other.bottom);
        }

        boolean is(long otherTop, long otherBottom) {
            return equalTo(of(otherTop, otherBottom));
        }
    }
}
