import java.math.BigInteger;

/** Curves that the tests begin with, and numbers that they ask for; shared by the tests of the project. */
final class Given {
    static final int NONE = -1;
    static final int MIN = Integer.MIN_VALUE;
    static final int MAX = Integer.MAX_VALUE;

    /** No numbers of points, whats, primes or candidates: the ends of int, and some that are small when they are cut. */
    static final int[] FAR = {
        MIN, MIN + 1, -65536, -32768, -257, -100, -17, -16, -13, -8, -7, -3, -2, -1,
        100, 256, 257, 32767, 32768, 65536, 65537, MAX - 1, MAX
    };

    /** A curve for each structure that coefficients -6 .. 6 reach, with m and n. */
    static final int[][] EVERY_STRUCTURE = {
        {0, 0, 1, -1, 0, 1, 1}, {1, 0, 0, 4, 1, 1, 2}, {0, 0, 1, 0, 0, 1, 3}, {0, 0, 0, 4, 0, 1, 4},
        {0, -1, 1, 0, 0, 1, 5}, {0, 0, 0, 0, 1, 1, 6}, {1, -1, 1, -3, 3, 1, 7}, {-5, 0, 6, -6, 0, 1, 8},
        {5, 2, 6, -6, 0, 1, 9}, {0, 0, 0, -1, 0, 2, 2}, {1, 1, 1, -5, 2, 2, 4}, {5, 3, 4, 0, -4, 2, 6}
    };

    private Given() {
    }

    static TorsionDesk curve(int... k) {
        TorsionDesk desk = new TorsionDesk();
        desk.curve(k[0], k[1], k[2], k[3], k[4]);
        return desk;
    }

    /** O alone; but (0, 4) and (0, -4) lie on it, and 16 divides its discriminant. */
    static TorsionDesk one() {
        return curve(0, 0, 1, -1, 0);
    }

    /** X numbers -4, 0 (twice), 8 (twice): a group of six that one point makes. */
    static TorsionDesk six() {
        return curve(0, 0, 0, 0, 1);
    }

    /** Two times six points: as many as coefficients -6 .. 6 reach. */
    static TorsionDesk twelve() {
        return curve(5, 3, 4, 0, -4);
    }

    static boolean isPrime(int number) {
        return number > 2 && number <= 97 && BigInteger.valueOf(number).isProbablePrime(30);
    }

    /** The discriminant by another way than the document's: 256 times that of the curve in x and y. */
    static long discriminantOf(int a, int b, int c, int d, int e) {
        long b2 = a * a + 4 * b;
        long b4 = a * c + 2 * d;
        long b6 = c * c + 4 * e;
        long b8 = a * a * e + 4 * b * e - a * c * d + b * c * c - d * d;
        return 256 * (-b2 * b2 * b8 - 8 * b4 * b4 * b4 - 27 * b6 * b6 + 9 * b2 * b4 * b6);
    }

    /** All that an object answers in the state it is in, some 400 calls: asked for once per object at most. */
    static String answers(TorsionDesk desk) {
        StringBuilder text = new StringBuilder();
        int points = desk.points();
        text.append(desk.discriminant()).append(" points ").append(points).append(" candidates");
        for (int k = 0; k <= 64; k++) {
            text.append(' ').append(desk.candidate(k));
        }
        for (int k = 0; k <= points; k++) {
            text.append(" point");
            for (int what = 0; what <= 6; what++) {
                text.append(' ').append(desk.point(k, what));
            }
        }
        text.append(" sums");
        for (int j = 0; j <= points; j++) {
            for (int k = 0; k <= j; k++) {
                text.append(' ').append(desk.sum(j, k));
            }
        }
        text.append(" times");
        for (int k = 0; k <= points; k++) {
            text.append(' ').append(desk.times(-1, k)).append(' ').append(desk.times(2, k));
        }
        text.append(" structure");
        for (int what = 0; what <= 3; what++) {
            text.append(' ').append(desk.structure(what));
        }
        text.append(" modulo");
        for (int p = 3; p <= 97; p++) {
            if (isPrime(p)) {
                text.append(' ').append(moduloOrName(desk, p));
            }
        }
        text.append(" bound ").append(desk.bound(5)).append(' ').append(desk.bound(97));
        return text.toString();
    }

    private static String moduloOrName(TorsionDesk desk, int p) {
        try {
            return Integer.toString(desk.modulo(p));
        } catch (RuntimeException e) {
            return e.getClass().getSimpleName();
        }
    }
}
