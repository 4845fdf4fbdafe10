/** Promises 6 to 10 and the terms that they use: a test for each sentence that names a boundary case. */
public final class PointBoundaryTests {
    private static final Check CHECK = new Check();

    private PointBoundaryTests() {
    }

    public static void main(String[] args) {
        zeroHasOrderOne();
        noSuchPoint();
        noSuchWhat();
        noPointsWithoutCurve();
        wholeFractions();
        trueFractions();
        pointsAtTheirEnds();
        pointsOfNoFiniteOrder();
        ordersAreTheLeast();
        numberedByXThenY();
        findsEveryPoint();
        findsNothingElse();
        findsNoZero();
        findsNothingWithoutCurve();
        zeroIsTheZero();
        oppositePointsGiveZero();
        samePoints();
        sumOfNoSuchPoint();
        sumWithoutCurve();
        timesZeroAndOne();
        timesBelowZero();
        timesAroundTheOrder();
        timesLeastAndGreatest();
        timesNoSuchPoint();
        timesWithoutCurve();
        structureWithoutCurve();
        noSuchStructure();
        zeroMakesTheSmallerPart();
        firstPointOfTheGreatestOrder();
        firstPointThatMakesTheRest();
        CHECK.end();
    }

    private static String name(int[] k) {
        return "curve(" + k[0] + ", " + k[1] + ", " + k[2] + ", " + k[3] + ", " + k[4] + ") ";
    }

    private static void zeroHasOrderOne() {
        CHECK.about("Promise 6", "0 for O, but its order is 1");
        for (int[] k : Given.EVERY_STRUCTURE) {
            TorsionDesk desk = Given.curve(k);
            for (int what = -1; what <= 7; what++) {
                CHECK.due(name(k) + "point(0, " + what + ")", desk.point(0, what), what == 2 ? 1 : 0);
            }
        }
    }

    private static void noSuchPoint() {
        CHECK.about("Promise 6", "0 if there is no such point");
        for (int[] k : Given.EVERY_STRUCTURE) {
            int count = k[5] * k[6];
            TorsionDesk desk = Given.curve(k);
            for (int what = 0; what <= 6; what++) {
                for (int number = count; number <= 34; number++) {
                    CHECK.due(name(k) + "point(" + number + ", " + what + ")", desk.point(number, what), 0);
                }
                CHECK.due(name(k) + "point(-1, " + what + ")", desk.point(-1, what), 0);
            }
        }
        for (int what = 0; what <= 6; what++) {
            TorsionDesk desk = Given.twelve();
            for (int number : Given.FAR) {
                CHECK.due("point(" + number + ", " + what + ")", desk.point(number, what), 0);
            }
        }
    }

    private static void noSuchWhat() {
        CHECK.about("Promise 6", "0 if there is no such ... what");
        for (int number = 0; number < 12; number++) {
            TorsionDesk desk = Given.twelve();
            CHECK.due("point(" + number + ", 7)", desk.point(number, 7), 0);
            CHECK.due("point(" + number + ", 8)", desk.point(number, 8), 0);
            for (int what : Given.FAR) {
                CHECK.due("point(" + number + ", " + what + ")", desk.point(number, what), 0);
            }
        }
        TorsionDesk desk = Given.twelve();
        for (int wrong : Given.FAR) {
            CHECK.due("point(" + wrong + ", " + wrong + ")", desk.point(wrong, wrong), 0);
        }
    }

    private static void noPointsWithoutCurve() {
        CHECK.about("Promise 6", "0 if there is no such point");
        TorsionDesk desk = new TorsionDesk();
        for (int what = -1; what <= 7; what++) {
            for (int number : new int[] {Given.MIN, -1, 0, 1, 12, Given.MAX}) {
                CHECK.due("without a curve, point(" + number + ", " + what + ")", desk.point(number, what), 0);
            }
        }
    }

    private static void wholeFractions() {
        CHECK.about("Promise 6", "its denominator (above 0, nothing in common)");
        // 0 is 0 / 1, below 0 the numerator alone has the sign.
        pointIs(new int[] {0, 0, 0, -1, 0}, 2, 0, 0, 2, 0, 1, 0, 1);
        pointIs(new int[] {0, 0, 0, -1, 0}, 1, -4, 0, 2, -1, 1, 0, 1);
        pointIs(new int[] {0, 0, 0, -1, 0}, 3, 4, 0, 2, 1, 1, 0, 1);
        pointIs(new int[] {0, 0, 0, 0, 1}, 4, 8, -24, 6, 2, 1, -3, 1);
        pointIs(new int[] {5, 3, 4, 0, -4}, 1, -32, 0, 2, -8, 1, 18, 1);
        // Y is not 0, but y is; and Y is 0, but y is not.
        pointIs(new int[] {0, 0, 1, 0, 0}, 2, 0, 4, 3, 0, 1, 0, 1);
        pointIs(new int[] {-6, 6, 4, -4, -4}, 2, 0, 0, 2, 0, 1, -2, 1);
    }

    private static void trueFractions() {
        CHECK.about("Promise 6", "its denominator (above 0, nothing in common)");
        pointIs(new int[] {1, 0, 0, 4, 1}, 1, -1, 0, 2, -1, 4, 1, 8);
        pointIs(new int[] {-5, 1, -4, 3, -4}, 2, -13, 0, 2, -13, 4, -49, 8);
        pointIs(new int[] {-5, -6, 4, -5, -4}, 3, 15, 0, 2, 15, 4, 59, 8);
        pointIs(new int[] {5, -6, -4, -5, -4}, 3, 15, 0, 2, 15, 4, -59, 8);
        pointIs(new int[] {1, 1, 1, -5, 2}, 4, 3, 0, 2, 3, 4, -7, 8);
    }

    private static void pointIs(int[] k, int number, int... want) {
        TorsionDesk desk = Given.curve(k);
        for (int what = 0; what <= 6; what++) {
            CHECK.due(name(k) + "point(" + number + ", " + what + ")", desk.point(number, what), want[what]);
        }
    }

    private static void pointsAtTheirEnds() {
        CHECK.about("Terms", "The points of finite order have whole numbers X and Y, and Y is 0, "
            + "or Y * Y divides the discriminant");
        // The least X, the greatest X and Y, that coefficients -6 .. 6 reach.
        pointIs(new int[] {-6, 6, 4, -4, -4}, 1, -64, 0, 2, -16, 1, -50, 1);
        pointIs(new int[] {-6, 1, 2, -6, 0}, 4, 48, -440, 6, 12, 1, -20, 1);
        pointIs(new int[] {-6, 1, 2, -6, 0}, 5, 48, 440, 6, 12, 1, 90, 1);
        pointIs(new int[] {-5, -3, 4, -5, 5}, 11, 48, 360, 6, 12, 1, 73, 1);
    }

    private static void pointsOfNoFiniteOrder() {
        CHECK.about("Terms", "The ORDER of a point is the least k above 0 for which k times it is O, if there is one.");
        // On each of these lies a point with 16 as Y * Y, which divides the discriminant.
        TorsionDesk desk = Given.one();
        CHECK.due("curve(0, 0, 1, -1, 0): points()", desk.points(), 1);
        CHECK.due("16 divides", desk.discriminant() % 16, 0);
        CHECK.due("find(0, 4)", desk.find(0, 4), Given.NONE);
        CHECK.due("find(0, -4)", desk.find(0, -4), Given.NONE);
        TorsionDesk other = Given.curve(1, -1, 1, 0, 0);
        CHECK.due("curve(1, -1, 1, 0, 0): points()", other.points(), 1);
        CHECK.due("16 divides", other.discriminant() % 16, 0);
        CHECK.due("find(0, 4)", other.find(0, 4), Given.NONE);
    }

    private static void ordersAreTheLeast() {
        CHECK.about("Terms", "The ORDER of a point is the least k above 0 for which k times it is O, if there is one.");
        for (int[] k : Given.EVERY_STRUCTURE) {
            TorsionDesk desk = Given.curve(k);
            for (int number = 0; number < desk.points(); number++) {
                int reached = number;
                int order = 1;
                while (reached != 0 && order < 20) {
                    reached = desk.sum(reached, number);
                    order++;
                }
                CHECK.due(name(k) + "the order of point " + number, desk.point(number, 2), order);
            }
        }
    }

    private static void numberedByXThenY() {
        CHECK.about("Terms", "O is 0, the others follow by rising X, those with the same X by rising Y.");
        for (int[] k : Given.EVERY_STRUCTURE) {
            TorsionDesk desk = Given.curve(k);
            for (int number = 2; number < desk.points(); number++) {
                int before = desk.point(number - 1, 0);
                int x = desk.point(number, 0);
                boolean rises = before < x || before == x && desk.point(number - 1, 1) < desk.point(number, 1);
                CHECK.holds(name(k) + "point " + number + " behind the one before", rises);
            }
        }
        // O stays the first, also where all X are above 0 or (0, 0) is a point.
        CHECK.due("all X above 0, point(0, 2)", Given.curve(-6, 1, 2, -6, 0).point(0, 2), 1);
        CHECK.due("all X above 0, point(1, 0)", Given.curve(-6, 1, 2, -6, 0).point(1, 0), 4);
        CHECK.due("(0, 0) a point, point(0, 2)", Given.curve(0, 0, 0, 4, 0).point(0, 2), 1);
        CHECK.due("(0, 0) a point, point(1, 2)", Given.curve(0, 0, 0, 4, 0).point(1, 2), 2);
    }

    private static void findsEveryPoint() {
        CHECK.about("Promise 7", "The number of the point with X and Y");
        for (int[] k : Given.EVERY_STRUCTURE) {
            TorsionDesk desk = Given.curve(k);
            for (int number = 1; number < desk.points(); number++) {
                int x = desk.point(number, 0);
                int y = desk.point(number, 1);
                CHECK.due(name(k) + "find(" + x + ", " + y + ")", desk.find(x, y), number);
            }
        }
        CHECK.due("the least X", Given.curve(-6, 6, 4, -4, -4).find(-64, 0), 1);
        CHECK.due("the greatest X and Y", Given.curve(-6, 1, 2, -6, 0).find(48, 440), 5);
    }

    private static void findsNothingElse() {
        CHECK.about("Promise 7", "NONE if it is none of these");
        TorsionDesk desk = Given.six();
        int[][] none = {
            {8, 25}, {8, 23}, {9, 24}, {7, 24}, {-8, 24}, {24, 8}, {0, 1}, {-4, 1}, {-4, -1}, {2, 3}, {-1, 0},
            {8, 0}, {8, -8}, {0, 24}, {4, 0}
        };
        for (int[] k : none) {
            CHECK.due("find(" + k[0] + ", " + k[1] + ")", desk.find(k[0], k[1]), Given.NONE);
        }
        for (int far : Given.FAR) {
            TorsionDesk twelve = Given.twelve();
            CHECK.due("find(" + far + ", 0)", twelve.find(far, 0), Given.NONE);
            CHECK.due("find(4, " + far + ")", twelve.find(4, far), Given.NONE);
            CHECK.due("find(" + far + ", " + far + ")", twelve.find(far, far), Given.NONE);
            for (int number = 1; number < 12; number++) {
                int x = twelve.point(number, 0);
                int y = twelve.point(number, 1);
                boolean wraps = far == Given.MIN || far == 65536 || far == -65536 || far == 256;
                if (wraps) {
                    CHECK.due("find(" + (x + far) + ", " + y + ")", twelve.find(x + far, y), Given.NONE);
                    CHECK.due("find(" + x + ", " + (y + far) + ")", twelve.find(x, y + far), Given.NONE);
                }
            }
        }
        desk.curve(0, 0, 0, -1, 0);
        CHECK.due("a point of the curve before", desk.find(8, 24), Given.NONE);
    }

    private static void findsNoZero() {
        CHECK.about("Promise 7", "NONE if it is none of these");
        // O has no X and Y, though point(0, 0) and point(0, 1) answer 0.
        CHECK.due("find(0, 0)", Given.six().find(0, 0), Given.NONE);
        CHECK.due("find(0, 0)", Given.one().find(0, 0), Given.NONE);
        CHECK.due("find(0, 0) where it is a point", Given.curve(0, 0, 0, -1, 0).find(0, 0), 2);
        CHECK.due("find(0, 0) where it is a point", Given.curve(0, 0, 0, 4, 0).find(0, 0), 1);
    }

    private static void findsNothingWithoutCurve() {
        CHECK.about("Promise 7", "NONE if it is none of these");
        TorsionDesk desk = new TorsionDesk();
        for (int x : new int[] {Given.MIN, -4, 0, 8, Given.MAX}) {
            for (int y : new int[] {Given.MIN, -8, 0, 24, Given.MAX}) {
                CHECK.due("without a curve, find(" + x + ", " + y + ")", desk.find(x, y), Given.NONE);
            }
        }
    }

    private static void zeroIsTheZero() {
        CHECK.about("Terms", "O is the zero.");
        for (int[] k : Given.EVERY_STRUCTURE) {
            TorsionDesk desk = Given.curve(k);
            for (int number = 0; number < desk.points(); number++) {
                CHECK.due(name(k) + "sum(0, " + number + ")", desk.sum(0, number), number);
                CHECK.due(name(k) + "sum(" + number + ", 0)", desk.sum(number, 0), number);
            }
        }
    }

    private static void oppositePointsGiveZero() {
        CHECK.about("Terms", "(X, Y) and (X, -Y) give O.");
        for (int[] k : Given.EVERY_STRUCTURE) {
            TorsionDesk desk = Given.curve(k);
            for (int number = 1; number < desk.points(); number++) {
                // With Y 0 the point is its own opposite, and the tangent would divide by 0.
                int opposite = desk.find(desk.point(number, 0), -desk.point(number, 1));
                CHECK.due(name(k) + "sum(" + number + ", " + opposite + ")", desk.sum(number, opposite), 0);
                CHECK.due(name(k) + "sum(" + opposite + ", " + number + ")", desk.sum(opposite, number), 0);
            }
        }
        CHECK.due("two points of order 2", Given.curve(0, 0, 0, -1, 0).sum(1, 2), 3);
    }

    private static void samePoints() {
        CHECK.about("Terms", "let s be (3 * X * X + 2 * A * X + B) / (2 * Y) if both points are the same");
        // (8, 24): s = 4, Z = 16 - 16 = 0 and -(24 + 4 * -8) = 8; (0, 8): s = 0, Z = 0 and -8.
        CHECK.due("sum(5, 5)", Given.six().sum(5, 5), 3);
        CHECK.due("sum(3, 3)", Given.six().sum(3, 3), 2);
        // A point of order 4, with a tangent that does not lie flat: twice it is (0, 0).
        CHECK.due("sum(2, 2)", Given.curve(0, 0, 0, 4, 0).sum(2, 2), 1);
        CHECK.due("sum(3, 3)", Given.curve(0, 0, 0, 4, 0).sum(3, 3), 1);
    }

    private static void sumOfNoSuchPoint() {
        CHECK.about("Promise 8", "NONE if there is no such point");
        for (int[] k : Given.EVERY_STRUCTURE) {
            int count = k[5] * k[6];
            TorsionDesk desk = Given.curve(k);
            for (int number = 0; number < count; number++) {
                for (int wrong : new int[] {-1, count, 16, 17, 31, 32, 33}) {
                    CHECK.due(name(k) + "sum(" + number + ", " + wrong + ")", desk.sum(number, wrong), Given.NONE);
                    CHECK.due(name(k) + "sum(" + wrong + ", " + number + ")", desk.sum(wrong, number), Given.NONE);
                }
            }
        }
        for (int wrong : Given.FAR) {
            TorsionDesk desk = Given.twelve();
            CHECK.due("sum(" + wrong + ", " + wrong + ")", desk.sum(wrong, wrong), Given.NONE);
            for (int number = 0; number < 12; number++) {
                CHECK.due("sum(" + number + ", " + wrong + ")", desk.sum(number, wrong), Given.NONE);
                CHECK.due("sum(" + wrong + ", " + number + ")", desk.sum(wrong, number), Given.NONE);
            }
        }
        // Numbers whose sum, wrapped around or not, is that of a point.
        CHECK.due("sum(-1, 1)", Given.six().sum(-1, 1), Given.NONE);
        CHECK.due("sum(MIN, MIN)", Given.six().sum(Given.MIN, Given.MIN), Given.NONE);
        CHECK.due("sum(MAX, MIN)", Given.six().sum(Given.MAX, Given.MIN), Given.NONE);
        CHECK.due("sum(6, -6)", Given.six().sum(6, -6), Given.NONE);
    }

    private static void sumWithoutCurve() {
        CHECK.about("Promise 8", "NONE if there is no such point");
        TorsionDesk desk = new TorsionDesk();
        for (int j : new int[] {Given.MIN, -1, 0, 1, Given.MAX}) {
            for (int k : new int[] {Given.MIN, -1, 0, 1, Given.MAX}) {
                CHECK.due("without a curve, sum(" + j + ", " + k + ")", desk.sum(j, k), Given.NONE);
            }
        }
    }

    private static void timesZeroAndOne() {
        CHECK.about("Promise 9", "The number of n times point k");
        for (int[] k : Given.EVERY_STRUCTURE) {
            TorsionDesk desk = Given.curve(k);
            for (int number = 0; number < desk.points(); number++) {
                CHECK.due(name(k) + "times(0, " + number + ")", desk.times(0, number), 0);
                CHECK.due(name(k) + "times(1, " + number + ")", desk.times(1, number), number);
            }
        }
    }

    private static void timesBelowZero() {
        CHECK.about("Promise 9", "n may be below 0: as often the point with -Y");
        for (int[] k : Given.EVERY_STRUCTURE) {
            for (int number = 1; number < k[5] * k[6]; number++) {
                TorsionDesk desk = Given.curve(k);
                int opposite = desk.find(desk.point(number, 0), -desk.point(number, 1));
                int reached = 0;
                for (int n = -1; n >= -27; n--) {
                    reached = desk.sum(reached, opposite);
                    CHECK.due(name(k) + "times(" + n + ", " + number + ")", desk.times(n, number), reached);
                }
            }
            CHECK.due(name(k) + "times(-1, 0)", Given.curve(k).times(-1, 0), 0);
        }
    }

    private static void timesAroundTheOrder() {
        CHECK.about("Promise 9", "The number of n times point k");
        for (int[] k : Given.EVERY_STRUCTURE) {
            for (int number = 1; number < k[5] * k[6]; number++) {
                TorsionDesk desk = Given.curve(k);
                int order = desk.point(number, 2);
                int opposite = desk.find(desk.point(number, 0), -desk.point(number, 1));
                for (int rounds : new int[] {-1000000 * order, -order, order, 2 * order, 1000000 * order}) {
                    CHECK.due(name(k) + "times(" + rounds + ", " + number + ")", desk.times(rounds, number), 0);
                    CHECK.due(name(k) + "one more", desk.times(rounds + 1, number), number);
                    CHECK.due(name(k) + "one less", desk.times(rounds - 1, number), opposite);
                }
            }
        }
    }

    private static void timesLeastAndGreatest() {
        CHECK.about("Promise 9", "n may be below 0: as often the point with -Y");
        for (int[] k : Given.EVERY_STRUCTURE) {
            for (int number = 0; number < k[5] * k[6]; number++) {
                TorsionDesk desk = Given.curve(k);
                int order = desk.point(number, 2);
                int[] multiples = new int[order];
                for (int i = 1; i < order; i++) {
                    multiples[i] = desk.sum(multiples[i - 1], number);
                }
                for (int n : Given.FAR) {
                    int want = multiples[Math.floorMod(n, order)];
                    CHECK.due(name(k) + "times(" + n + ", " + number + ")", desk.times(n, number), want);
                }
            }
        }
        // 2 to the power 31 leaves 3 when divided by 5, and 2 when divided by 3; it has no opposite in int.
        CHECK.due("order 5, times(MIN, 1)", Given.curve(0, -1, 1, 0, 0).times(Given.MIN, 1), 4);
        CHECK.due("order 3, times(MIN, 2)", Given.six().times(Given.MIN, 2), 2);
        CHECK.due("order 3, times(MAX, 2)", Given.six().times(Given.MAX, 2), 2);
    }

    private static void timesNoSuchPoint() {
        CHECK.about("Promise 9", "NONE if there is no such point");
        for (int[] k : Given.EVERY_STRUCTURE) {
            int count = k[5] * k[6];
            for (int n : new int[] {Given.MIN, -2, -1, 0, 1, 2, count, Given.MAX}) {
                TorsionDesk desk = Given.curve(k);
                for (int wrong : Given.FAR) {
                    CHECK.due(name(k) + "times(" + n + ", " + wrong + ")", desk.times(n, wrong), Given.NONE);
                }
                for (int wrong = count; wrong <= 34; wrong++) {
                    CHECK.due(name(k) + "times(" + n + ", " + wrong + ")", desk.times(n, wrong), Given.NONE);
                }
            }
        }
    }

    private static void timesWithoutCurve() {
        CHECK.about("Promise 9", "NONE if there is no such point");
        TorsionDesk desk = new TorsionDesk();
        for (int n : new int[] {Given.MIN, -1, 0, 1, Given.MAX}) {
            for (int k : new int[] {Given.MIN, -1, 0, 1, Given.MAX}) {
                CHECK.due("without a curve, times(" + n + ", " + k + ")", desk.times(n, k), Given.NONE);
            }
        }
    }

    private static void structureWithoutCurve() {
        CHECK.about("Promise 10", "NONE without a curve");
        TorsionDesk desk = new TorsionDesk();
        for (int what = -1; what <= 4; what++) {
            CHECK.due("structure(" + what + ")", desk.structure(what), Given.NONE);
        }
        CHECK.thrown("curve(0, 0, 0, 0, 0)", Check.ARITHMETIC, () -> desk.curve(0, 0, 0, 0, 0));
        for (int what = -1; what <= 4; what++) {
            CHECK.due("after a singular curve, structure(" + what + ")", desk.structure(what), Given.NONE);
        }
    }

    private static void noSuchStructure() {
        CHECK.about("Promise 10", "NONE ... if there is no such what");
        for (int[] k : Given.EVERY_STRUCTURE) {
            TorsionDesk desk = Given.curve(k);
            for (int what : new int[] {4, 5, 6, 7}) {
                CHECK.due(name(k) + "structure(" + what + ")", desk.structure(what), Given.NONE);
            }
            for (int what : Given.FAR) {
                CHECK.due(name(k) + "structure(" + what + ")", desk.structure(what), Given.NONE);
            }
        }
    }

    private static void zeroMakesTheSmallerPart() {
        CHECK.about("Terms", "(O if m is 1)");
        for (int[] k : Given.EVERY_STRUCTURE) {
            if (k[5] == 1) {
                CHECK.due(name(k) + "m", Given.curve(k).structure(0), 1);
                CHECK.due(name(k) + "P", Given.curve(k).structure(2), 0);
            }
        }
        CHECK.due("O alone, n", Given.one().structure(1), 1);
        CHECK.due("O alone, Q", Given.one().structure(3), 0);
    }

    private static void firstPointOfTheGreatestOrder() {
        CHECK.about("Terms", "n is the greatest order; Q the first point, by numbers, that has it");
        for (int[] k : Given.EVERY_STRUCTURE) {
            TorsionDesk desk = Given.curve(k);
            int q = 0;
            for (int number = 0; number < desk.points(); number++) {
                if (desk.point(number, 2) > desk.point(q, 2)) {
                    q = number;
                }
            }
            CHECK.due(name(k) + "n", desk.structure(1), k[6]);
            CHECK.due(name(k) + "n", desk.structure(1), desk.point(q, 2));
            CHECK.due(name(k) + "Q", desk.structure(3), q);
        }
        CHECK.due("the first point is it", Given.curve(0, -1, 1, 0, 0).structure(3), 1);
        CHECK.due("behind one of order 2", Given.curve(0, 0, 0, 4, 0).structure(3), 2);
        CHECK.due("behind those of orders 2 and 3", Given.six().structure(3), 4);
    }

    private static void firstPointThatMakesTheRest() {
        CHECK.about("Terms", "P the first one with which this is so");
        for (int[] k : Given.EVERY_STRUCTURE) {
            CHECK.due(name(k) + "m", Given.curve(k).structure(0), k[5]);
            CHECK.due(name(k) + "P", Given.curve(k).structure(2), firstMaker(k));
        }
        // Of order 2 are 1, 2 and 3; but 1 is Q itself.
        CHECK.due("two times two, Q", Given.curve(0, 0, 0, -1, 0).structure(3), 1);
        CHECK.due("two times two, P", Given.curve(0, 0, 0, -1, 0).structure(2), 2);
        // Of order 2 are 1, 4 and 5; 1 and one of the others are no multiples of Q.
        CHECK.due("two times four, P", Given.curve(1, 1, 1, -5, 2).structure(2), 1);
        CHECK.due("two times six, P", Given.twelve().structure(2), 1);
    }

    private static int firstMaker(int[] k) {
        int m = k[5];
        int n = k[6];
        for (int p = 0; p < m * n; p++) {
            TorsionDesk desk = Given.curve(k);
            if (desk.point(p, 2) == m && makesAll(desk, p, m, n)) {
                return p;
            }
        }
        return Given.NONE;
    }

    private static boolean makesAll(TorsionDesk desk, int p, int m, int n) {
        boolean[] met = new boolean[m * n];
        int q = desk.structure(3);
        for (int i = 0; i < m; i++) {
            for (int j = 0; j < n; j++) {
                int sum = desk.sum(desk.times(i, p), desk.times(j, q));
                if (met[sum]) {
                    return false;
                }
                met[sum] = true;
            }
        }
        return true;
    }
}
