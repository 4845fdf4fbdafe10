/** For each promise of the document what it answers ordinarily; the boundary tests have its edges and wrong inputs. */
public final class PromiseTests {
    private static final Check CHECK = new Check();

    private PromiseTests() {
    }

    public static void main(String[] args) {
        newObject();
        curveCountsPoints();
        curveReplaces();
        discriminant();
        candidate();
        points();
        point();
        find();
        sum();
        times();
        structure();
        modulo();
        bound();
        objectsAreApart();
        CHECK.end();
    }

    private static void newObject() {
        CHECK.due("1: NONE", TorsionDesk.NONE, -1);
        noCurve("1: new", new TorsionDesk());
    }

    private static void noCurve(String when, TorsionDesk x) {
        CHECK.due(when + " discriminant()", x.discriminant(), 0);
        CHECK.due(when + " candidate(0)", x.candidate(0), -1);
        CHECK.due(when + " points()", x.points(), 0);
        CHECK.due(when + " point(0, 2)", x.point(0, 2), 0);
        CHECK.due(when + " find(8, 24)", x.find(8, 24), -1);
        CHECK.due(when + " sum(0, 0)", x.sum(0, 0), -1);
        CHECK.due(when + " times(1, 0)", x.times(1, 0), -1);
        CHECK.due(when + " structure(0)", x.structure(0), -1);
        CHECK.due(when + " bound(97)", x.bound(97), 0);
        CHECK.thrown(when + " modulo(5)", Check.STATE, () -> x.modulo(5));
    }

    private static void curveCountsPoints() {
        // One curve for each structure that coefficients -6 .. 6 reach.
        int[][] known = {
            {6, 6, 6, 6, 6, 1}, {6, 6, 6, 6, 1, 2}, {6, 6, 6, 6, 3, 3}, {6, 6, 4, -3, -4, 4},
            {6, 6, 4, 2, -4, 4}, {6, 5, 5, 0, 0, 5}, {6, 4, 4, -1, -4, 6}, {5, -1, 5, -6, -3, 7},
            {1, -1, 1, -3, 3, 7}, {5, 6, 4, 6, -4, 8}, {6, 5, -4, -3, -4, 8}, {1, 1, 1, -5, 2, 8},
            {5, 2, 6, -6, 0, 9}, {1, -1, 1, 1, -1, 3}, {5, 3, 4, 0, -4, 12}
        };
        for (int[] row : known) {
            TorsionDesk x = new TorsionDesk();
            String call = "2: curve(" + row[0] + ", " + row[1] + ", " + row[2] + ", " + row[3] + ", " + row[4] + ")";
            CHECK.due(call, x.curve(row[0], row[1], row[2], row[3], row[4]), row[5]);
            CHECK.due(call + " then points()", x.points(), row[5]);
        }
        // Points whose squares Y * Y divide the discriminant, but which have no finite order.
        CHECK.due("2: curve(0, 0, 1, -1, 0)", new TorsionDesk().curve(0, 0, 1, -1, 0), 1);
        CHECK.due("2: curve(1, -1, 1, 0, 0)", new TorsionDesk().curve(1, -1, 1, 0, 0), 1);
    }

    private static void curveReplaces() {
        TorsionDesk x = Given.six();
        CHECK.thrown("2: refused coefficient", Check.ARGUMENT, () -> x.curve(1, 1, 1, 1, 8));
        sixStands("2: after a refused coefficient", x);
        CHECK.thrown("2: singular", Check.ARITHMETIC, () -> x.curve(0, 1, 0, 0, 0));
        sixStands("2: after a singular curve", x);
        CHECK.due("2: curve in place", x.curve(0, 0, 1, -1, 0), 1);
        CHECK.due("2: discriminant in place", x.discriminant(), 9472);
        CHECK.due("2: find of a point before", x.find(8, 24), -1);
        CHECK.due("2: point before", x.point(5, 2), 0);
        CHECK.due("2: sum of points before", x.sum(1, 2), -1);
        CHECK.due("2: candidate before", x.candidate(5), -1);
        CHECK.due("2: structure in place", x.structure(1), 1);
        CHECK.due("2: modulo in place", x.modulo(3), 7);
        CHECK.due("2: and back", x.curve(0, 0, 0, 0, 1), 6);
        sixStands("2: back", x);
    }

    private static void sixStands(String when, TorsionDesk x) {
        CHECK.due(when + " points()", x.points(), 6);
        CHECK.due(when + " discriminant()", x.discriminant(), -110592);
        CHECK.due(when + " candidate(5)", x.candidate(5), 8);
        CHECK.due(when + " find(8, 24)", x.find(8, 24), 5);
        CHECK.due(when + " sum(1, 2)", x.sum(1, 2), 5);
        CHECK.due(when + " times(5, 4)", x.times(5, 4), 5);
        CHECK.due(when + " point(3, 5)", x.point(3, 5), 1);
        CHECK.due(when + " structure(3)", x.structure(3), 4);
        CHECK.due(when + " modulo(7)", x.modulo(7), 12);
        CHECK.due(when + " bound(30)", x.bound(30), 6);
    }

    private static void discriminant() {
        CHECK.due("3: 37", Given.curve(0, 0, 1, -1, 0).discriminant(), 256 * 37);
        CHECK.due("3: -11", Given.curve(0, -1, 1, 0, 0).discriminant(), 256 * -11);
        CHECK.due("3: 64 in x", Given.curve(0, 0, 0, -1, 0).discriminant(), 256 * 64);
        CHECK.due("3: all 6", Given.curve(6, 6, 6, 6, 6).discriminant(), Given.discriminantOf(6, 6, 6, 6, 6));
        CHECK.due("3: the greatest", Given.curve(-6, 6, 6, 6, 6).discriminant(), -892366848L);
        CHECK.due("3: mixed", Given.curve(-6, 5, 4, -3, 2).discriminant(), Given.discriminantOf(-6, 5, 4, -3, 2));
    }

    private static void candidate() {
        int[] ofSix = {1, 2, 3, 4, 6, 8, 12, 16, 24, 32, 48, 64, 96, 192};
        TorsionDesk x = Given.six();
        for (int k = 0; k < ofSix.length; k++) {
            CHECK.due("4: candidate(" + k + ")", x.candidate(k), ofSix[k]);
        }
        // The greatest candidate is a square here, so its own root is met once.
        int[] ofThirtySeven = {1, 2, 4, 8, 16};
        x.curve(0, 0, 1, -1, 0);
        for (int k = 0; k < ofThirtySeven.length; k++) {
            CHECK.due("4: candidate(" + k + ")", x.candidate(k), ofThirtySeven[k]);
        }
        CHECK.due("4: candidate(5)", x.candidate(5), -1);
    }

    private static void points() {
        CHECK.due("5: one", Given.curve(0, 0, 1, -1, 0).points(), 1);
        CHECK.due("5: six", Given.six().points(), 6);
        CHECK.due("5: twelve", Given.curve(5, 3, 4, 0, -4).points(), 12);
    }

    private static void point() {
        long[][] rows = {
            {0, 0, 1, 0, 0, 0, 0}, {-4, 0, 2, -1, 1, 0, 1}, {0, -8, 3, 0, 1, -1, 1},
            {0, 8, 3, 0, 1, 1, 1}, {8, -24, 6, 2, 1, -3, 1}, {8, 24, 6, 2, 1, 3, 1}
        };
        everyPoint("6: curve(0, 0, 0, 0, 1)", Given.six(), rows);
        // x = -1/4 and y = 1/8: the point of order 2 of y * y + x * y = x * x * x + 4 * x + 1.
        everyPoint("6: curve(1, 0, 0, 4, 1)", Given.curve(1, 0, 0, 4, 1), new long[][] {
            {0, 0, 1, 0, 0, 0, 0}, {-1, 0, 2, -1, 4, 1, 8}});
        // Here c is not 0, so that Y = -4 and 4 are no opposite y: they are -1 and 0.
        everyPoint("6: curve(0, 0, 1, 0, 0)", Given.curve(0, 0, 1, 0, 0), new long[][] {
            {0, 0, 1, 0, 0, 0, 0}, {0, -4, 3, 0, 1, -1, 1}, {0, 4, 3, 0, 1, 0, 1}});
    }

    private static void everyPoint(String of, TorsionDesk x, long[][] rows) {
        CHECK.due(of + " points()", x.points(), rows.length);
        for (int k = 0; k < rows.length; k++) {
            for (int what = 0; what < 7; what++) {
                CHECK.due(of + " point(" + k + ", " + what + ")", x.point(k, what), rows[k][what]);
            }
        }
    }

    private static void find() {
        TorsionDesk x = Given.six();
        for (int k = 1; k < 6; k++) {
            CHECK.due("7: find of point " + k, x.find(x.point(k, 0), x.point(k, 1)), k);
        }
        CHECK.due("7: O has no X and Y", x.find(0, 0), -1);
        CHECK.due("7: wrong Y", x.find(8, 25), -1);
        CHECK.due("7: wrong X", x.find(9, 24), -1);
        CHECK.due("7: (0, 0) where it is a point", Given.curve(0, 0, 0, -1, 0).find(0, 0), 2);
        // On the curve, with Y * Y dividing the discriminant, but of no finite order.
        CHECK.due("7: no finite order", Given.curve(0, 0, 1, -1, 0).find(0, 4), -1);
        CHECK.due("7: no finite order", Given.curve(1, -1, 1, 0, 0).find(0, 4), -1);
    }

    private static void sum() {
        int[][] table = {
            {0, 1, 2, 3, 4, 5}, {1, 0, 5, 4, 3, 2}, {2, 5, 3, 0, 1, 4},
            {3, 4, 0, 2, 5, 1}, {4, 3, 1, 5, 2, 0}, {5, 2, 4, 1, 0, 3}
        };
        TorsionDesk x = Given.six();
        for (int j = 0; j < 6; j++) {
            for (int k = 0; k < 6; k++) {
                CHECK.due("8: sum(" + j + ", " + k + ")", x.sum(j, k), table[j][k]);
            }
        }
    }

    private static void times() {
        TorsionDesk x = Given.six();
        int[] ofFour = {0, 4, 2, 1, 3, 5};
        for (int n = -30; n <= 30; n++) {
            CHECK.due("9: times(" + n + ", 4)", x.times(n, 4), ofFour[Math.floorMod(n, 6)]);
            CHECK.due("9: times(" + n + ", 1)", x.times(n, 1), n % 2 == 0 ? 0 : 1);
            CHECK.due("9: times(" + n + ", 0)", x.times(n, 0), 0);
        }
    }

    private static void structure() {
        made("10: one", Given.curve(0, 0, 1, -1, 0), 1, 1, 0, 0);
        made("10: six", Given.six(), 1, 6, 0, 4);
        made("10: two by two", Given.curve(0, 0, 0, -1, 0), 2, 2, 2, 1);
        made("10: two by four", Given.curve(1, 1, 1, -5, 2), 2, 4, 1, 2);
        made("10: five", Given.curve(0, -1, 1, 0, 0), 1, 5, 0, 1);
        TorsionDesk twelve = Given.curve(5, 3, 4, 0, -4);
        CHECK.due("10: twelve, m", twelve.structure(0), 2);
        CHECK.due("10: twelve, n", twelve.structure(1), 6);
    }

    private static void made(String of, TorsionDesk x, int m, int n, int p, int q) {
        CHECK.due(of + ", m", x.structure(0), m);
        CHECK.due(of + ", n", x.structure(1), n);
        CHECK.due(of + ", P", x.structure(2), p);
        CHECK.due(of + ", Q", x.structure(3), q);
    }

    private static void modulo() {
        TorsionDesk x = Given.curve(0, 0, 1, -1, 0);
        // The numbers of points of this well-known curve of conductor 37.
        int[][] known = {{3, 7}, {5, 8}, {7, 9}, {11, 17}, {13, 16}, {17, 18}, {19, 20}, {23, 22}};
        for (int[] row : known) {
            CHECK.due("11: modulo(" + row[0] + ")", x.modulo(row[0]), row[1]);
        }
        CHECK.due("11: modulo(97)", Given.curve(0, -1, 1, 0, 0).modulo(97), 105);
        CHECK.due("11: modulo(3) after greater primes", x.modulo(3), 7);
    }

    private static void bound() {
        TorsionDesk x = Given.six();
        CHECK.due("12: 3 divides, so there are none", x.bound(3), 0);
        CHECK.due("12: none yet", x.bound(4), 0);
        CHECK.due("12: 5 alone", x.bound(5), 6);
        CHECK.due("12: bound(97)", x.bound(97), 6);
        CHECK.due("12: bound(98)", x.bound(98), 0);
        CHECK.due("12: bound(2)", x.bound(2), 0);
        x.curve(0, 0, 1, -1, 0);
        CHECK.due("12: 3 alone", x.bound(3), 7);
        CHECK.due("12: 3 alone, up to 4", x.bound(4), 7);
        CHECK.due("12: 7 and 8", x.bound(5), 1);
        x.curve(0, -1, 1, 0, 0);
        CHECK.due("12: the bad prime 11 is left out", x.bound(11), 5);
    }

    private static void objectsAreApart() {
        TorsionDesk first = Given.six();
        TorsionDesk second = Given.curve(0, 0, 1, -1, 0);
        sixStands("apart: first", first);
        CHECK.due("apart: second", second.points(), 1);
        noCurve("apart: third", new TorsionDesk());
    }
}
