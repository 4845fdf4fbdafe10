/** Promises 1 to 5 and the terms that they use: a test for each sentence that names a boundary case. */
public final class CurveBoundaryTests {
    private static final Check CHECK = new Check();
    private static final String NO_CURVE = noCurve();

    private CurveBoundaryTests() {
    }

    public static void main(String[] args) {
        newObjectHasNoCurve();
        coefficientsAtTheirEnds();
        coefficientsBehindTheirEnds();
        coefficientsThatAreSmallWhenCut();
        singularCurves();
        nearlySingularCurves();
        wrongCoefficientsComeFirst();
        throwingLeavesNoCurve();
        throwingLeavesTheCurveBefore();
        curveInPlaceOfAnother();
        curveInPlaceOfItself();
        curveCountsPoints();
        noDiscriminant();
        discriminantAtItsEnds();
        noCandidates();
        candidatesFromZero();
        candidatesRise();
        candidatesBehindTheLast();
        candidatesBeforeTheFirst();
        noPoints();
        pointsAtTheirEnds();
        CHECK.end();
    }

    /** What the document asks of an object without a curve, in the form of Given.answers. */
    private static String noCurve() {
        return "0 points 0 candidates" + " -1".repeat(65) + " point" + " 0".repeat(7) + " sums -1 times -1 -1"
            + " structure" + " -1".repeat(4) + " modulo" + " IllegalStateException".repeat(24) + " bound 0 0";
    }

    private static void newObjectHasNoCurve() {
        CHECK.about("Promise 1", "No curve.");
        CHECK.due("a new object", Given.answers(new TorsionDesk()), NO_CURVE);
        CHECK.due("find(0, 0)", new TorsionDesk().find(0, 0), Given.NONE);
        Given.answers(Given.twelve());
        CHECK.due("a new object beside others", Given.answers(new TorsionDesk()), NO_CURVE);
    }

    private static void coefficientsAtTheirEnds() {
        CHECK.about("Terms", "A CURVE has COEFFICIENTS a, b, c, d, e, each -6 .. 6.");
        for (int corner = 0; corner < 32; corner++) {
            int[] k = new int[5];
            for (int i = 0; i < 5; i++) {
                k[i] = (corner >> i & 1) == 0 ? -6 : 6;
            }
            accepted(k);
        }
        for (int place = 0; place < 5; place++) {
            for (int end = -6; end <= 6; end += 12) {
                int[] k = {1, 1, 1, -5, 2};
                k[place] = end;
                accepted(k);
            }
        }
        accepted(new int[] {0, 0, 0, 0, -6});
        accepted(new int[] {0, 0, 0, 0, 6});
    }

    private static void accepted(int[] k) {
        long discriminant = Given.discriminantOf(k[0], k[1], k[2], k[3], k[4]);
        CHECK.holds(name(k) + " is not singular, so that it can be tested", discriminant != 0);
        CHECK.thrown(name(k), null, () -> CHECK.due(name(k), Given.curve(k).discriminant(), discriminant));
    }

    private static void refused(int[] k, Class<?> want) {
        CHECK.thrown(name(k), want, () -> Given.curve(k));
    }

    private static String name(int[] k) {
        return "curve(" + k[0] + ", " + k[1] + ", " + k[2] + ", " + k[3] + ", " + k[4] + ")";
    }

    private static void coefficientsBehindTheirEnds() {
        CHECK.about("Promise 2", "IllegalArgumentException if a coefficient is not -6 .. 6");
        int[] wrongs = {Given.MIN, Given.MIN + 1, -8, -7, 7, 8, Given.MAX - 1, Given.MAX};
        for (int place = 0; place < 5; place++) {
            for (int wrong : wrongs) {
                for (int others : new int[] {-6, -1, 1, 6}) {
                    int[] k = {others, others, others, others, others};
                    k[place] = wrong;
                    refused(k, Check.ARGUMENT);
                }
            }
        }
        for (int wrong : wrongs) {
            refused(new int[] {wrong, wrong, wrong, wrong, wrong}, Check.ARGUMENT);
            refused(new int[] {wrong, 0, 0, 0, -wrong}, Check.ARGUMENT);
        }
    }

    private static void coefficientsThatAreSmallWhenCut() {
        CHECK.about("Promise 2", "IllegalArgumentException if a coefficient is not -6 .. 6");
        for (int cut : new int[] {256, -256, 65536, -65536, 1 << 30, Given.MIN}) {
            for (int place = 0; place < 5; place++) {
                int[] k = {0, 0, 0, 0, 1};
                k[place] += cut;
                refused(k, Check.ARGUMENT);
            }
        }
    }

    private static void singularCurves() {
        CHECK.about("Promise 2", "ArithmeticException if it is singular");
        int[][] singular = {
            {0, 0, 0, 0, 0}, {0, 1, 0, 0, 0}, {0, -6, 0, 0, 0}, {0, 0, 0, -3, 2}, {0, 0, 0, -3, -2},
            {2, 2, 0, 0, 0}, {0, 0, 2, 0, -1}, {-6, -6, -2, -6, -5}, {-6, -6, 2, 6, -5}, {-6, -6, 0, 0, 0}
        };
        for (int[] k : singular) {
            CHECK.due(name(k) + ": its discriminant", Given.discriminantOf(k[0], k[1], k[2], k[3], k[4]), 0);
            refused(k, Check.ARITHMETIC);
        }
    }

    private static void nearlySingularCurves() {
        CHECK.about("Terms", "It is SINGULAR if that is 0.");
        // The smallest discriminants, of both signs, that coefficients -6 .. 6 reach.
        CHECK.due("curve(0, -1, 1, 0, 0)", Given.curve(0, -1, 1, 0, 0).discriminant(), -2816);
        CHECK.due("curve(-5, -4, -2, -4, -1)", Given.curve(-5, -4, -2, -4, -1).discriminant(), 4352);
        int[] middle = {0, 0, 0, -3, 2};
        for (int place = 0; place < 5; place++) {
            for (int step = -1; step <= 1; step += 2) {
                int[] k = middle.clone();
                k[place] += step;
                long discriminant = Given.discriminantOf(k[0], k[1], k[2], k[3], k[4]);
                CHECK.thrown(name(k), discriminant == 0 ? Check.ARITHMETIC : null, () -> Given.curve(k));
            }
        }
    }

    private static void wrongCoefficientsComeFirst() {
        CHECK.about("Promise 2", "IllegalArgumentException if a coefficient is not -6 .. 6; "
            + "ArithmeticException if it is singular.");
        // By the formula alone the discriminants of these are 0 too.
        int[][] both = {
            {7, 0, 0, 0, 0}, {-7, 0, 0, 0, 0}, {0, 7, 0, 0, 0}, {0, -7, 0, 0, 0}, {0, 0, 0, -12, 16},
            {0, 0, 0, -12, -16}, {Given.MIN, 0, 0, 0, 0}, {0, Given.MIN, 0, 0, 0}, {0, 0, Given.MIN, 0, 0},
            {0, 0, 0, Given.MIN, 0}, {0, 0, 0, 0, Given.MIN}, {65536, 0, 0, 0, 0}
        };
        for (int[] k : both) {
            refused(k, Check.ARGUMENT);
        }
    }

    private static void throwingLeavesNoCurve() {
        CHECK.about("Promise 2", "(What throws leaves the curve before.)");
        TorsionDesk argument = new TorsionDesk();
        CHECK.thrown("curve(0, 0, 0, 0, 7)", Check.ARGUMENT, () -> argument.curve(0, 0, 0, 0, 7));
        CHECK.due("without a curve, after it", Given.answers(argument), NO_CURVE);
        TorsionDesk singular = new TorsionDesk();
        CHECK.thrown("curve(0, 1, 0, 0, 0)", Check.ARITHMETIC, () -> singular.curve(0, 1, 0, 0, 0));
        CHECK.due("without a curve, after it", Given.answers(singular), NO_CURVE);
    }

    private static void throwingLeavesTheCurveBefore() {
        CHECK.about("Promise 2", "(What throws leaves the curve before.)");
        for (int[] before : Given.EVERY_STRUCTURE) {
            String want = Given.answers(Given.curve(before));
            for (int place = 0; place < 5; place++) {
                int[] k = {-6, 1, 3, -2, 5};
                k[place] = 7;
                leaves(before, k, Check.ARGUMENT, want);
            }
            leaves(before, new int[] {Given.MIN, Given.MAX, 0, Given.MIN, 7}, Check.ARGUMENT, want);
            leaves(before, new int[] {0, 0, 0, 0, 0}, Check.ARITHMETIC, want);
            leaves(before, new int[] {-6, -6, 2, 6, -5}, Check.ARITHMETIC, want);
        }
    }

    private static void leaves(int[] before, int[] k, Class<?> thrown, String want) {
        TorsionDesk desk = Given.curve(before);
        for (int again = 0; again < 3; again++) {
            CHECK.thrown(name(k), thrown, () -> desk.curve(k[0], k[1], k[2], k[3], k[4]));
        }
        CHECK.due(name(before) + " after " + name(k), Given.answers(desk), want);
    }

    private static void curveInPlaceOfAnother() {
        CHECK.about("Promise 2", "A curve, in place of another one");
        for (int[] next : Given.EVERY_STRUCTURE) {
            String want = Given.answers(Given.curve(next));
            for (int[] before : Given.EVERY_STRUCTURE) {
                TorsionDesk desk = Given.curve(before);
                desk.curve(next[0], next[1], next[2], next[3], next[4]);
                CHECK.due(name(next) + " after " + name(before), Given.answers(desk), want);
            }
        }
    }

    private static void curveInPlaceOfItself() {
        CHECK.about("Promise 2", "A curve, in place of another one");
        TorsionDesk desk = Given.twelve();
        CHECK.due("the same curve again", desk.curve(5, 3, 4, 0, -4), 12);
        CHECK.due("the same curve again", Given.answers(desk), Given.answers(Given.twelve()));
    }

    private static void curveCountsPoints() {
        CHECK.about("Promise 2", "how many points of finite order it has");
        for (int[] k : Given.EVERY_STRUCTURE) {
            TorsionDesk desk = new TorsionDesk();
            CHECK.due(name(k), desk.curve(k[0], k[1], k[2], k[3], k[4]), k[5] * k[6]);
            CHECK.due(name(k) + " then points()", desk.points(), k[5] * k[6]);
        }
    }

    private static void noDiscriminant() {
        CHECK.about("Promise 3", "0 if there is no curve");
        TorsionDesk desk = new TorsionDesk();
        CHECK.due("discriminant()", desk.discriminant(), 0);
        CHECK.thrown("curve(7, 0, 0, 0, 1)", Check.ARGUMENT, () -> desk.curve(7, 0, 0, 0, 1));
        CHECK.thrown("curve(0, 1, 0, 0, 0)", Check.ARITHMETIC, () -> desk.curve(0, 1, 0, 0, 0));
        CHECK.due("discriminant()", desk.discriminant(), 0);
    }

    private static void discriminantAtItsEnds() {
        CHECK.about("Promise 3", "The discriminant");
        CHECK.due("the least one", Given.curve(-6, 6, 6, 6, 6).discriminant(), -892366848);
        CHECK.due("the greatest one", Given.curve(-6, 6, 4, -6, -6).discriminant(), 544112640);
        CHECK.due("after a refused call", afterRefusedCalls(Given.six()).discriminant(), -110592);
    }

    private static TorsionDesk afterRefusedCalls(TorsionDesk desk) {
        CHECK.thrown("curve(0, 0, 0, 0, -7)", Check.ARGUMENT, () -> desk.curve(0, 0, 0, 0, -7));
        CHECK.thrown("curve(0, 2, 0, 0, 0)", Check.ARITHMETIC, () -> desk.curve(0, 2, 0, 0, 0));
        return desk;
    }

    private static void noCandidates() {
        CHECK.about("Promise 4", "NONE if there is none");
        TorsionDesk desk = afterRefusedCalls(new TorsionDesk());
        for (int k = 0; k <= 70; k++) {
            CHECK.due("without a curve, candidate(" + k + ")", desk.candidate(k), Given.NONE);
        }
        for (int k : Given.FAR) {
            CHECK.due("without a curve, candidate(" + k + ")", desk.candidate(k), Given.NONE);
        }
    }

    private static void candidatesFromZero() {
        CHECK.about("Promise 4", "Number k, from 0, of the numbers above 0");
        for (int[] k : Given.EVERY_STRUCTURE) {
            CHECK.due(name(k) + ", candidate(0)", Given.curve(k).candidate(0), 1);
        }
        CHECK.due("the second", Given.six().candidate(1), 2);
    }

    private static void candidatesRise() {
        CHECK.about("Promise 4", "rising, whose squares divide the discriminant");
        candidatesAre("the fewest, 5", Given.one(), 5);
        candidatesAre("a discriminant below 0", Given.six(), 14);
        candidatesAre("the discriminant a square", Given.curve(0, 0, 0, -1, 0), 8);
        candidatesAre("the discriminant a square, but below 0", Given.curve(0, 0, 0, 4, 0), 11);
        candidatesAre("the most, 64", Given.curve(6, 4, -4, -2, -4), 64);
        candidatesAre("the greatest one, 19712", Given.curve(-6, 5, 6, -1, 3), 36);
        CHECK.due("the greatest one", Given.curve(-6, 5, 6, -1, 3).candidate(35), 19712);
        candidatesAre("the least discriminant", Given.curve(-6, 6, 6, 6, 6), 14);
    }

    private static void candidatesAre(String of, TorsionDesk desk, int count) {
        long size = Math.abs(desk.discriminant());
        int k = 0;
        for (long t = 1; t * t <= size; t++) {
            if (size % (t * t) == 0) {
                CHECK.due(of + ", candidate(" + k + ")", desk.candidate(k), t);
                k++;
            }
        }
        CHECK.due(of + ", how many", k, count);
    }

    private static void candidatesBehindTheLast() {
        CHECK.about("Promise 4", "NONE if there is none");
        behind(Given.one(), 5);
        behind(Given.six(), 14);
        behind(Given.curve(6, 4, -4, -2, -4), 64);
        behind(Given.curve(-6, 5, 6, -1, 3), 36);
        // The rows of a curve with more of them stand no longer.
        TorsionDesk desk = Given.curve(6, 4, -4, -2, -4);
        desk.curve(0, 0, 1, -1, 0);
        behind(desk, 5);
    }

    private static void behind(TorsionDesk desk, int count) {
        CHECK.holds("candidate(" + (count - 1) + ") above 0", desk.candidate(count - 1) > 0);
        for (int k = count; k <= 130; k++) {
            CHECK.due("of " + count + ", candidate(" + k + ")", desk.candidate(k), Given.NONE);
        }
        for (int k : new int[] {255, 256, 257, 32768, 65535, 65536, Given.MAX - 1, Given.MAX}) {
            CHECK.due("of " + count + ", candidate(" + k + ")", desk.candidate(k), Given.NONE);
        }
    }

    private static void candidatesBeforeTheFirst() {
        CHECK.about("Promise 4", "Number k, from 0 ...; NONE if there is none");
        TorsionDesk desk = Given.six();
        for (int k : new int[] {-1, -2, -14, -64, -256, -65536, Given.MIN + 1, Given.MIN}) {
            CHECK.due("candidate(" + k + ")", desk.candidate(k), Given.NONE);
        }
    }

    private static void noPoints() {
        CHECK.about("Promise 5", "0 without a curve");
        CHECK.due("points()", new TorsionDesk().points(), 0);
        CHECK.due("points()", afterRefusedCalls(new TorsionDesk()).points(), 0);
    }

    private static void pointsAtTheirEnds() {
        CHECK.about("Promise 5", "How many points of finite order there are");
        CHECK.due("O alone", Given.one().points(), 1);
        CHECK.due("the most", Given.twelve().points(), 12);
        CHECK.due("the most, after refused calls", afterRefusedCalls(Given.twelve()).points(), 12);
        TorsionDesk desk = Given.twelve();
        desk.curve(0, 0, 1, -1, 0);
        CHECK.due("O alone, after the most", desk.points(), 1);
    }
}
