/** For each promise of the document: ordinary inputs, the edges that it names, and wrong inputs. */
public final class PromiseTests {
    private static final int MIN = Integer.MIN_VALUE;
    private static final int MAX = Integer.MAX_VALUE;
    private static final Class<?> ARGUMENT = IllegalArgumentException.class;
    private static final Class<?> STATE = IllegalStateException.class;
    private static final Class<?> ARITHMETIC = ArithmeticException.class;

    private static final Check CHECK = new Check();

    private PromiseTests() {
    }

    public static void main(String[] args) {
        newObject();
        curveCountsPoints();
        curveRefuses();
        curveReplaces();
        discriminant();
        candidate();
        points();
        point();
        find();
        sum();
        times();
        structure();
        modulo();
        moduloRefuses();
        bound();
        lastCalls();
        objectsAreApart();
        CHECK.end();
    }

    private static TorsionDesk desk(int a, int b, int c, int d, int e) {
        TorsionDesk desk = new TorsionDesk();
        desk.curve(a, b, c, d, e);
        return desk;
    }

    /** Points -4, 0 (twice), 8 (twice): a group of six that one point makes. */
    private static TorsionDesk six() {
        return desk(0, 0, 0, 0, 1);
    }

    private static void newObject() {
        TorsionDesk x = new TorsionDesk();
        CHECK.due("1: NONE", TorsionDesk.NONE, -1);
        noCurve("1: new", x);
        CHECK.thrown("1: curve refused", ARGUMENT, () -> x.curve(7, 0, 0, 0, 1));
        noCurve("1: after a refused coefficient", x);
        CHECK.thrown("1: curve refused", ARITHMETIC, () -> x.curve(0, 0, 0, 0, 0));
        noCurve("1: after a singular curve", x);
    }

    private static void noCurve(String when, TorsionDesk x) {
        CHECK.due(when + " discriminant()", x.discriminant(), 0);
        CHECK.due(when + " points()", x.points(), 0);
        for (int k : new int[] {MIN, -1, 0, 1, 15, MAX}) {
            CHECK.due(when + " candidate(" + k + ")", x.candidate(k), -1);
            CHECK.due(when + " sum(0, " + k + ")", x.sum(0, k), -1);
            CHECK.due(when + " sum(" + k + ", 0)", x.sum(k, 0), -1);
            CHECK.due(when + " times(0, " + k + ")", x.times(0, k), -1);
            CHECK.due(when + " structure(" + k + ")", x.structure(k), -1);
            CHECK.due(when + " bound(" + k + ")", x.bound(k), 0);
            for (int what = -1; what <= 7; what++) {
                CHECK.due(when + " point(" + k + ", " + what + ")", x.point(k, what), 0);
            }
        }
        CHECK.due(when + " bound(97)", x.bound(97), 0);
        CHECK.due(when + " find(0, 0)", x.find(0, 0), -1);
        CHECK.due(when + " find(8, 24)", x.find(8, 24), -1);
        CHECK.thrown(when + " modulo(5)", STATE, () -> x.modulo(5));
    }

    private static void curveCountsPoints() {
        // One curve for each structure that coefficients -6 .. 6 reach.
        int[][] known = {
            {6, 6, 6, 6, 6, 1}, {6, 6, 6, 6, 1, 2}, {6, 6, 6, 6, 3, 3}, {6, 6, 4, -3, -4, 4},
            {6, 6, 4, 2, -4, 4}, {6, 5, 5, 0, 0, 5}, {6, 4, 4, -1, -4, 6}, {5, -1, 5, -6, -3, 7},
            {1, -1, 1, -3, 3, 7}, {5, 6, 4, 6, -4, 8}, {6, 5, -4, -3, -4, 8}, {1, 1, 1, -5, 2, 8},
            {5, 2, 6, -6, 0, 9}, {1, -1, 1, 1, -1, 3}, {5, 3, 4, 0, -4, 12}
        };
        for (int[] row : known) {
            TorsionDesk x = new TorsionDesk();
            String call = "2: curve(" + row[0] + ", " + row[1] + ", " + row[2] + ", " + row[3] + ", " + row[4] + ")";
            CHECK.due(call, x.curve(row[0], row[1], row[2], row[3], row[4]), row[5]);
            CHECK.due(call + " then points()", x.points(), row[5]);
        }
        // Points whose squares Y * Y divide the discriminant, but which have no finite order.
        CHECK.due("2: curve(0, 0, 1, -1, 0)", new TorsionDesk().curve(0, 0, 1, -1, 0), 1);
        CHECK.due("2: curve(1, -1, 1, 0, 0)", new TorsionDesk().curve(1, -1, 1, 0, 0), 1);
    }

    private static void curveRefuses() {
        TorsionDesk x = new TorsionDesk();
        for (int wrong : new int[] {MIN, -7, 7, MAX, 1 << 16}) {
            CHECK.thrown("2: a = " + wrong, ARGUMENT, () -> x.curve(wrong, 0, 0, 0, 1));
            CHECK.thrown("2: b = " + wrong, ARGUMENT, () -> x.curve(0, wrong, 0, 0, 1));
            CHECK.thrown("2: c = " + wrong, ARGUMENT, () -> x.curve(0, 0, wrong, 0, 1));
            CHECK.thrown("2: d = " + wrong, ARGUMENT, () -> x.curve(0, 0, 0, wrong, 1));
            CHECK.thrown("2: e = " + wrong, ARGUMENT, () -> x.curve(0, 0, 0, 0, wrong));
        }
        CHECK.thrown("2: singular with a wrong coefficient", ARGUMENT, () -> x.curve(0, 7, 0, 0, 0));
        CHECK.thrown("2: a cusp", ARITHMETIC, () -> x.curve(0, 0, 0, 0, 0));
        CHECK.thrown("2: a node", ARITHMETIC, () -> x.curve(0, 1, 0, 0, 0));
        CHECK.thrown("2: another node", ARITHMETIC, () -> x.curve(0, 0, 0, -3, 2));
        CHECK.thrown("2: all -6", null, () -> x.curve(-6, -6, -6, -6, -6));
        CHECK.thrown("2: all 6", null, () -> x.curve(6, 6, 6, 6, 6));
    }

    private static void curveReplaces() {
        TorsionDesk x = six();
        CHECK.thrown("2: refused coefficient", ARGUMENT, () -> x.curve(1, 1, 1, 1, 8));
        sixStands("2: after a refused coefficient", x);
        CHECK.thrown("2: singular", ARITHMETIC, () -> x.curve(0, 1, 0, 0, 0));
        sixStands("2: after a singular curve", x);
        CHECK.due("2: curve in place", x.curve(0, 0, 1, -1, 0), 1);
        CHECK.due("2: discriminant in place", x.discriminant(), 9472);
        CHECK.due("2: find of a point before", x.find(8, 24), -1);
        CHECK.due("2: point before", x.point(5, 2), 0);
        CHECK.due("2: sum of points before", x.sum(1, 2), -1);
        CHECK.due("2: candidate before", x.candidate(5), -1);
        CHECK.due("2: structure in place", x.structure(1), 1);
        CHECK.due("2: modulo in place", x.modulo(3), 7);
        CHECK.due("2: and back", x.curve(0, 0, 0, 0, 1), 6);
        sixStands("2: back", x);
    }

    private static void sixStands(String when, TorsionDesk x) {
        CHECK.due(when + " points()", x.points(), 6);
        CHECK.due(when + " discriminant()", x.discriminant(), -110592);
        CHECK.due(when + " candidate(5)", x.candidate(5), 8);
        CHECK.due(when + " find(8, 24)", x.find(8, 24), 5);
        CHECK.due(when + " sum(1, 2)", x.sum(1, 2), 5);
        CHECK.due(when + " times(5, 4)", x.times(5, 4), 5);
        CHECK.due(when + " point(3, 5)", x.point(3, 5), 1);
        CHECK.due(when + " structure(3)", x.structure(3), 4);
        CHECK.due(when + " modulo(7)", x.modulo(7), 12);
        CHECK.due(when + " bound(30)", x.bound(30), 6);
    }

    private static void discriminant() {
        CHECK.due("3: 37", desk(0, 0, 1, -1, 0).discriminant(), 256 * 37);
        CHECK.due("3: -11", desk(0, -1, 1, 0, 0).discriminant(), 256 * -11);
        CHECK.due("3: 64 in x", desk(0, 0, 0, -1, 0).discriminant(), 256 * 64);
        CHECK.due("3: all 6", desk(6, 6, 6, 6, 6).discriminant(), discriminantOf(6, 6, 6, 6, 6));
        CHECK.due("3: the greatest", desk(-6, 6, 6, 6, 6).discriminant(), -892366848L);
        CHECK.due("3: mixed", desk(-6, 5, 4, -3, 2).discriminant(), discriminantOf(-6, 5, 4, -3, 2));
    }

    private static long discriminantOf(int a, int b, int c, int d, int e) {
        long b2 = a * a + 4 * b;
        long b4 = a * c + 2 * d;
        long b6 = c * c + 4 * e;
        long b8 = a * a * e + 4 * b * e - a * c * d + b * c * c - d * d;
        return 256 * (-b2 * b2 * b8 - 8 * b4 * b4 * b4 - 27 * b6 * b6 + 9 * b2 * b4 * b6);
    }

    private static void candidate() {
        int[] ofSix = {1, 2, 3, 4, 6, 8, 12, 16, 24, 32, 48, 64, 96, 192};
        TorsionDesk x = six();
        for (int k = 0; k < ofSix.length; k++) {
            CHECK.due("4: candidate(" + k + ")", x.candidate(k), ofSix[k]);
        }
        for (int k : new int[] {MIN, -1, 14, 15, 63, 64, 65, MAX}) {
            CHECK.due("4: candidate(" + k + ")", x.candidate(k), -1);
        }
        // The greatest candidate is a square here, so its own root is met once.
        int[] ofThirtySeven = {1, 2, 4, 8, 16};
        x.curve(0, 0, 1, -1, 0);
        for (int k = 0; k < ofThirtySeven.length; k++) {
            CHECK.due("4: candidate(" + k + ")", x.candidate(k), ofThirtySeven[k]);
        }
        CHECK.due("4: candidate(5)", x.candidate(5), -1);
        candidatesAre("4: the most candidates, 64", desk(6, 4, -4, -2, -4), 64);
        candidatesAre("4: the greatest candidate, 19712", desk(-6, 5, 6, -1, 3), 36);
        candidatesAre("4: the greatest discriminant", desk(-6, 6, 6, 6, 6), 14);
    }

    private static void candidatesAre(String of, TorsionDesk x, int count) {
        long size = Math.abs(x.discriminant());
        int k = 0;
        for (long t = 1; t * t <= size; t++) {
            if (size % (t * t) == 0) {
                CHECK.due(of + ", candidate(" + k + ")", x.candidate(k), t);
                k++;
            }
        }
        CHECK.due(of + ", how many", k, count);
        CHECK.due(of + ", behind the last", x.candidate(k), -1);
    }

    private static void points() {
        CHECK.due("5: one", desk(0, 0, 1, -1, 0).points(), 1);
        CHECK.due("5: six", six().points(), 6);
        CHECK.due("5: twelve", desk(5, 3, 4, 0, -4).points(), 12);
    }

    private static void point() {
        long[][] rows = {
            {0, 0, 1, 0, 0, 0, 0}, {-4, 0, 2, -1, 1, 0, 1}, {0, -8, 3, 0, 1, -1, 1},
            {0, 8, 3, 0, 1, 1, 1}, {8, -24, 6, 2, 1, -3, 1}, {8, 24, 6, 2, 1, 3, 1}
        };
        everyPoint("6: curve(0, 0, 0, 0, 1)", six(), rows);
        // x = -1/4 and y = 1/8: the point of order 2 of y * y + x * y = x * x * x + 4 * x + 1.
        everyPoint("6: curve(1, 0, 0, 4, 1)", desk(1, 0, 0, 4, 1), new long[][] {
            {0, 0, 1, 0, 0, 0, 0}, {-1, 0, 2, -1, 4, 1, 8}});
        // Here c is not 0, so that Y = -4 and 4 are no opposite y: they are -1 and 0.
        everyPoint("6: curve(0, 0, 1, 0, 0)", desk(0, 0, 1, 0, 0), new long[][] {
            {0, 0, 1, 0, 0, 0, 0}, {0, -4, 3, 0, 1, -1, 1}, {0, 4, 3, 0, 1, 0, 1}});
        TorsionDesk x = six();
        for (int k : new int[] {MIN, -1, 6, 15, 16, 31, 32, MAX}) {
            for (int what = -1; what <= 7; what++) {
                CHECK.due("6: point(" + k + ", " + what + ")", x.point(k, what), 0);
            }
        }
        for (int what : new int[] {MIN, -1, 7, 8, MAX}) {
            CHECK.due("6: point(0, " + what + ")", x.point(0, what), 0);
            CHECK.due("6: point(5, " + what + ")", x.point(5, what), 0);
        }
    }

    private static void everyPoint(String of, TorsionDesk x, long[][] rows) {
        CHECK.due(of + " points()", x.points(), rows.length);
        for (int k = 0; k < rows.length; k++) {
            for (int what = 0; what < 7; what++) {
                CHECK.due(of + " point(" + k + ", " + what + ")", x.point(k, what), rows[k][what]);
            }
        }
    }

    private static void find() {
        TorsionDesk x = six();
        for (int k = 1; k < 6; k++) {
            CHECK.due("7: find of point " + k, x.find(x.point(k, 0), x.point(k, 1)), k);
        }
        CHECK.due("7: O has no X and Y", x.find(0, 0), -1);
        CHECK.due("7: wrong Y", x.find(8, 25), -1);
        CHECK.due("7: wrong X", x.find(9, 24), -1);
        CHECK.due("7: far off", x.find(MIN, MAX), -1);
        CHECK.due("7: (0, 0) where it is a point", desk(0, 0, 0, -1, 0).find(0, 0), 2);
        // On the curve, with Y * Y dividing the discriminant, but of no finite order.
        CHECK.due("7: no finite order", desk(0, 0, 1, -1, 0).find(0, 4), -1);
        CHECK.due("7: no finite order", desk(1, -1, 1, 0, 0).find(0, 4), -1);
    }

    private static void sum() {
        int[][] table = {
            {0, 1, 2, 3, 4, 5}, {1, 0, 5, 4, 3, 2}, {2, 5, 3, 0, 1, 4},
            {3, 4, 0, 2, 5, 1}, {4, 3, 1, 5, 2, 0}, {5, 2, 4, 1, 0, 3}
        };
        TorsionDesk x = six();
        for (int j = 0; j < 6; j++) {
            for (int k = 0; k < 6; k++) {
                CHECK.due("8: sum(" + j + ", " + k + ")", x.sum(j, k), table[j][k]);
            }
        }
        for (int wrong : new int[] {MIN, -1, 6, 16, 32, MAX}) {
            for (int k = 0; k < 6; k++) {
                CHECK.due("8: sum(" + wrong + ", " + k + ")", x.sum(wrong, k), -1);
                CHECK.due("8: sum(" + k + ", " + wrong + ")", x.sum(k, wrong), -1);
            }
            CHECK.due("8: sum(" + wrong + ", " + wrong + ")", x.sum(wrong, wrong), -1);
        }
    }

    private static void times() {
        TorsionDesk x = six();
        int[] ofFour = {0, 4, 2, 1, 3, 5};
        for (int n = -30; n <= 30; n++) {
            CHECK.due("9: times(" + n + ", 4)", x.times(n, 4), ofFour[Math.floorMod(n, 6)]);
            CHECK.due("9: times(" + n + ", 1)", x.times(n, 1), n % 2 == 0 ? 0 : 1);
            CHECK.due("9: times(" + n + ", 0)", x.times(n, 0), 0);
        }
        for (int n : new int[] {MIN, MIN + 1, MAX - 1, MAX}) {
            CHECK.due("9: times(" + n + ", 4)", x.times(n, 4), ofFour[Math.floorMod(n, 6)]);
        }
        for (int n : new int[] {MIN, -1, 0, 1, MAX}) {
            for (int k : new int[] {MIN, -1, 6, 16, 32, MAX}) {
                CHECK.due("9: times(" + n + ", " + k + ")", x.times(n, k), -1);
            }
        }
    }

    private static void structure() {
        made("10: one", desk(0, 0, 1, -1, 0), 1, 1, 0, 0);
        made("10: six", six(), 1, 6, 0, 4);
        made("10: two by two", desk(0, 0, 0, -1, 0), 2, 2, 2, 1);
        made("10: two by four", desk(1, 1, 1, -5, 2), 2, 4, 1, 2);
        made("10: five", desk(0, -1, 1, 0, 0), 1, 5, 0, 1);
        TorsionDesk twelve = desk(5, 3, 4, 0, -4);
        CHECK.due("10: twelve, m", twelve.structure(0), 2);
        CHECK.due("10: twelve, n", twelve.structure(1), 6);
        for (int what : new int[] {MIN, -1, 4, 5, MAX}) {
            CHECK.due("10: structure(" + what + ")", twelve.structure(what), -1);
        }
    }

    private static void made(String of, TorsionDesk x, int m, int n, int p, int q) {
        CHECK.due(of + ", m", x.structure(0), m);
        CHECK.due(of + ", n", x.structure(1), n);
        CHECK.due(of + ", P", x.structure(2), p);
        CHECK.due(of + ", Q", x.structure(3), q);
    }

    private static void modulo() {
        TorsionDesk x = desk(0, 0, 1, -1, 0);
        // The numbers of points of this well-known curve of conductor 37.
        int[][] known = {{3, 7}, {5, 8}, {7, 9}, {11, 17}, {13, 16}, {17, 18}, {19, 20}, {23, 22}};
        for (int[] row : known) {
            CHECK.due("11: modulo(" + row[0] + ")", x.modulo(row[0]), row[1]);
        }
        CHECK.due("11: modulo(97)", desk(0, -1, 1, 0, 0).modulo(97), 105);
        CHECK.due("11: modulo(3) after greater primes", x.modulo(3), 7);
    }

    private static void moduloRefuses() {
        TorsionDesk none = new TorsionDesk();
        TorsionDesk x = six();
        int[] noPrimes = {MIN, -3, -1, 0, 1, 2, 4, 9, 15, 49, 77, 91, 95, 96, 98, 99, 101, MAX};
        for (int p : noPrimes) {
            CHECK.thrown("11: modulo(" + p + ")", ARGUMENT, () -> x.modulo(p));
            CHECK.thrown("11: without a curve, modulo(" + p + ")", ARGUMENT, () -> none.modulo(p));
        }
        for (int p = 3; p <= 97; p++) {
            int number = p;
            boolean prime = java.math.BigInteger.valueOf(p).isProbablePrime(30);
            CHECK.thrown("11: without a curve, modulo(" + p + ")", prime ? STATE : ARGUMENT, () -> none.modulo(number));
        }
        CHECK.thrown("11: modulo(3) divides", ARITHMETIC, () -> x.modulo(3));
        CHECK.thrown("11: modulo(5) does not", null, () -> x.modulo(5));
        CHECK.thrown("11: 37 divides", ARITHMETIC, () -> desk(0, 0, 1, -1, 0).modulo(37));
        CHECK.thrown("11: 11 divides", ARITHMETIC, () -> desk(0, -1, 1, 0, 0).modulo(11));
    }

    private static void bound() {
        TorsionDesk x = six();
        CHECK.due("12: 3 divides, so there are none", x.bound(3), 0);
        CHECK.due("12: none yet", x.bound(4), 0);
        CHECK.due("12: 5 alone", x.bound(5), 6);
        CHECK.due("12: bound(97)", x.bound(97), 6);
        CHECK.due("12: bound(98)", x.bound(98), 0);
        CHECK.due("12: bound(2)", x.bound(2), 0);
        for (int n : new int[] {MIN, -97, -1, 0, 1, 99, MAX}) {
            CHECK.due("12: bound(" + n + ")", x.bound(n), 0);
        }
        x.curve(0, 0, 1, -1, 0);
        CHECK.due("12: 3 alone", x.bound(3), 7);
        CHECK.due("12: 3 alone, up to 4", x.bound(4), 7);
        CHECK.due("12: 7 and 8", x.bound(5), 1);
        x.curve(0, -1, 1, 0, 0);
        CHECK.due("12: the bad prime 11 is left out", x.bound(11), 5);
    }

    private static void lastCalls() {
        TorsionDesk x = new TorsionDesk();
        for (int call = 0; call < 510; call += 2) {
            CHECK.due("call " + call + ": curve", x.curve(0, 0, 0, 0, 1), 6);
            CHECK.due("call " + (call + 1) + ": curve", x.curve(0, 0, 1, -1, 0), 1);
        }
        CHECK.due("call 511: curve", x.curve(5, 3, 4, 0, -4), 12);
        CHECK.due("call 512: structure", x.structure(1), 6);
    }

    private static void objectsAreApart() {
        TorsionDesk first = six();
        TorsionDesk second = desk(0, 0, 1, -1, 0);
        sixStands("apart: first", first);
        CHECK.due("apart: second", second.points(), 1);
        noCurve("apart: third", new TorsionDesk());
    }
}
