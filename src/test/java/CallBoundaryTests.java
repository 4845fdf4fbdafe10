/** The limit of 512 calls, arguments that may be any int, and calls that only ask and so change nothing. */
public final class CallBoundaryTests {
    private static final Check CHECK = new Check();
    private static final int LIMIT = 512;
    private static final int[] ANY = {
        Given.MIN, Given.MIN + 1, -65536, -98, -97, -16, -7, -6, -1, 0, 1, 2, 3, 5, 6, 7, 11, 12, 13, 16, 17, 31, 32,
        63, 64, 65, 96, 97, 98, 256, 65536, Given.MAX - 1, Given.MAX
    };

    private CallBoundaryTests() {
    }

    public static void main(String[] args) {
        lastCallAfterCurves();
        lastCallAfterRefusedCalls();
        lastCallAfterQuestions();
        objectsCountAlone();
        anyNumberForCurve();
        anyNumberForOnePoint();
        anyNumbersForTwoPoints();
        anyNumberForPrimes();
        questionsChangeNothing();
        CHECK.end();
    }

    /** Whatever is asked as the last call that is promised, the answer is as due. */
    private static final String[] LAST = {
        "curve", "curve refused", "curve singular", "discriminant", "candidate", "points", "point", "find", "sum",
        "times", "structure", "modulo", "modulo refused", "modulo divides", "bound"
    };

    private static void askLast(String last, TorsionDesk x) {
        String call = "call " + LIMIT + ", " + last;
        switch (last) {
            case "curve" -> CHECK.due(call, x.curve(5, 3, 4, 0, -4), 12);
            case "curve refused" -> CHECK.thrown(call, Check.ARGUMENT, () -> x.curve(0, 0, 7, 0, 1));
            case "curve singular" -> CHECK.thrown(call, Check.ARITHMETIC, () -> x.curve(0, 1, 0, 0, 0));
            case "discriminant" -> CHECK.due(call, x.discriminant(), -110592);
            case "candidate" -> CHECK.due(call, x.candidate(13), 192);
            case "points" -> CHECK.due(call, x.points(), 6);
            case "point" -> CHECK.due(call, x.point(5, 2), 6);
            case "find" -> CHECK.due(call, x.find(8, 24), 5);
            case "sum" -> CHECK.due(call, x.sum(1, 2), 5);
            case "times" -> CHECK.due(call, x.times(Given.MIN, 3), 3);
            case "structure" -> CHECK.due(call, x.structure(3), 4);
            case "modulo" -> CHECK.due(call, x.modulo(7), 12);
            case "modulo refused" -> CHECK.thrown(call, Check.ARGUMENT, () -> x.modulo(99));
            case "modulo divides" -> CHECK.thrown(call, Check.ARITHMETIC, () -> x.modulo(3));
            case "bound" -> CHECK.due(call, x.bound(97), 6);
            default -> CHECK.tell(last + " is no call");
        }
    }

    private static void lastCallAfterCurves() {
        CHECK.about("What it is", "An object is used for at most 512 calls after it has been made");
        int[][] curves = Given.EVERY_STRUCTURE;
        for (String last : LAST) {
            TorsionDesk desk = new TorsionDesk();
            for (int call = 1; call <= LIMIT - 2; call++) {
                int[] k = curves[call % curves.length];
                CHECK.due("call " + call + ", curve", desk.curve(k[0], k[1], k[2], k[3], k[4]), k[5] * k[6]);
            }
            CHECK.due("call " + (LIMIT - 1) + ", curve", desk.curve(0, 0, 0, 0, 1), 6);
            askLast(last, desk);
        }
    }

    private static void lastCallAfterRefusedCalls() {
        CHECK.about("What it is", "An object is used for at most 512 calls after it has been made");
        for (String last : LAST) {
            TorsionDesk desk = Given.six();
            for (int call = 2; call < LIMIT; call++) {
                int which = call;
                Class<?> want = call % 2 == 0 ? Check.ARGUMENT : Check.ARITHMETIC;
                CHECK.thrown("call " + call, want, () -> refusedCall(desk, which % 4));
            }
            askLast(last, desk);
        }
    }

    private static void refusedCall(TorsionDesk desk, int which) {
        switch (which) {
            case 0 -> desk.curve(-7, 0, 0, 0, 1);
            case 1 -> desk.curve(0, 0, 0, 0, 0);
            case 2 -> desk.modulo(98);
            default -> desk.modulo(3);
        }
    }

    private static void lastCallAfterQuestions() {
        CHECK.about("What it is", "An object is used for at most 512 calls after it has been made");
        for (String last : LAST) {
            TorsionDesk desk = Given.six();
            for (int call = 2; call < LIMIT; call++) {
                question(desk, call);
            }
            askLast(last, desk);
        }
    }

    private static void question(TorsionDesk x, int call) {
        int k = call / 9 % 8 - 1;
        boolean there = k >= 0 && k < 6;
        switch (call % 9) {
            case 0 -> CHECK.due("discriminant()", x.discriminant(), -110592);
            case 1 -> CHECK.due("candidate(" + 2 * k + ")", x.candidate(2 * k), k < 0 ? -1 : new int[] {
                1, 3, 6, 12, 24, 48, 96}[k]);
            case 2 -> CHECK.due("points()", x.points(), 6);
            case 3 -> CHECK.due("point(" + k + ", 2)", x.point(k, 2), there ? new int[] {1, 2, 3, 3, 6, 6}[k] : 0);
            case 4 -> CHECK.due("find(8, " + 24 * k + ")", x.find(8, 24 * k), k == -1 ? 4 : k == 1 ? 5 : -1);
            case 5 -> CHECK.due("sum(1, " + k + ")", x.sum(1, k), there ? new int[] {1, 0, 5, 4, 3, 2}[k] : -1);
            case 6 -> CHECK.due("times(3, " + k + ")", x.times(3, k), there ? new int[] {0, 1, 0, 0, 1, 1}[k] : -1);
            case 7 -> CHECK.due("structure(" + k + ")", x.structure(k), k >= 0 && k < 4 ? new int[] {
                1, 6, 0, 4}[k] : -1);
            default -> CHECK.due("bound(" + (94 + k) + ")", x.bound(94 + k), k <= 3 ? 6 : 0);
        }
    }

    private static void objectsCountAlone() {
        CHECK.about("What it is", "An object is used for at most 512 calls after it has been made");
        TorsionDesk first = Given.six();
        for (int other = 0; other < 20; other++) {
            TorsionDesk desk = Given.one();
            for (int call = 2; call <= LIMIT; call++) {
                CHECK.due("another object, points()", desk.points(), 1);
            }
        }
        CHECK.due("after many calls of others", Given.answers(first), Given.answers(Given.six()));
    }

    private static void anyNumberForCurve() {
        CHECK.about("Promise 2", "IllegalArgumentException if a coefficient is not -6 .. 6; "
            + "ArithmeticException if it is singular.");
        int[] some = {Given.MIN, -7, -6, 0, 6, 7, Given.MAX};
        for (int a : some) {
            for (int b : some) {
                TorsionDesk desk = new TorsionDesk();
                for (int rest = 0; rest < 343; rest++) {
                    anyCurve(desk, a, b, some[rest % 7], some[rest / 7 % 7], some[rest / 49]);
                }
            }
        }
    }

    private static void anyCurve(TorsionDesk desk, int a, int b, int c, int d, int e) {
        boolean small = isSmall(a) && isSmall(b) && isSmall(c) && isSmall(d) && isSmall(e);
        boolean singular = small && Given.discriminantOf(a, b, c, d, e) == 0;
        Class<?> want = !small ? Check.ARGUMENT : singular ? Check.ARITHMETIC : null;
        String call = "curve(" + a + ", " + b + ", " + c + ", " + d + ", " + e + ")";
        CHECK.thrown(call, want, () -> desk.curve(a, b, c, d, e));
    }

    private static boolean isSmall(int number) {
        return number >= -6 && number <= 6;
    }

    private static void anyNumberForOnePoint() {
        CHECK.about("Promises 4 and 10", "NONE if there is none ... if there is no such what");
        for (int k : ANY) {
            CHECK.due("none, candidate(" + k + ")", new TorsionDesk().candidate(k), Given.NONE);
            CHECK.due("none, structure(" + k + ")", new TorsionDesk().structure(k), Given.NONE);
            boolean candidate = k >= 0 && k < 14;
            CHECK.holds("six, candidate(" + k + ") there", Given.six().candidate(k) > 0 == candidate);
            CHECK.holds("six, candidate(" + k + ") not there", Given.six().candidate(k) == -1 != candidate);
            boolean what = k >= 0 && k < 4;
            CHECK.holds("six, structure(" + k + ") there", Given.six().structure(k) >= 0 == what);
            CHECK.holds("six, structure(" + k + ") not there", Given.six().structure(k) == -1 != what);
        }
    }

    private static void anyNumbersForTwoPoints() {
        CHECK.about("Promises 6 to 9", "if there is no such point");
        for (int j : ANY) {
            TorsionDesk none = new TorsionDesk();
            TorsionDesk twelve = Given.twelve();
            for (int k : ANY) {
                String with = "(" + j + ", " + k + ")";
                CHECK.due("none, point" + with, none.point(j, k), 0);
                CHECK.due("none, find" + with, none.find(j, k), Given.NONE);
                CHECK.due("none, sum" + with, none.sum(j, k), Given.NONE);
                CHECK.due("none, times" + with, none.times(j, k), Given.NONE);
                boolean first = j >= 0 && j < 12;
                boolean second = k >= 0 && k < 12;
                CHECK.holds("twelve, sum" + with, isNumber(twelve.sum(j, k), first && second));
                CHECK.holds("twelve, times" + with, isNumber(twelve.times(j, k), second));
                CHECK.due("twelve, find" + with, twelve.find(j, k), j == 0 && k == 0 ? 7 : Given.NONE);
                if (!first || k < 0 || k > 6) {
                    CHECK.due("twelve, point" + with, twelve.point(j, k), 0);
                }
            }
        }
    }

    private static boolean isNumber(int answer, boolean there) {
        return there ? answer >= 0 && answer < 12 : answer == Given.NONE;
    }

    private static void anyNumberForPrimes() {
        CHECK.about("Promises 11 and 12", "IllegalArgumentException if p is no prime 3 .. 97 ... 0 if there are none, "
            + "no curve, or n is above 97");
        for (int p : ANY) {
            boolean prime = Given.isPrime(p);
            Class<?> divides = p == 3 ? Check.ARITHMETIC : null;
            CHECK.thrown("none, modulo(" + p + ")", prime ? Check.STATE : Check.ARGUMENT,
                () -> new TorsionDesk().modulo(p));
            CHECK.thrown("six, modulo(" + p + ")", prime ? divides : Check.ARGUMENT, () -> Given.six().modulo(p));
            CHECK.due("none, bound(" + p + ")", new TorsionDesk().bound(p), 0);
            CHECK.due("six, bound(" + p + ")", Given.six().bound(p), p >= 5 && p <= 97 ? 6 : 0);
        }
    }

    private static void questionsChangeNothing() {
        CHECK.about("Not promised", "Nothing is promised beyond the answers and state changes described above");
        for (int[] curve : Given.EVERY_STRUCTURE) {
            TorsionDesk desk = Given.curve(curve);
            for (int k : new int[] {Given.MIN, -1, 0, 1, 5, 12, 97, Given.MAX}) {
                desk.discriminant();
                desk.candidate(k);
                desk.points();
                desk.point(k, 1 - k);
                desk.find(k, -k);
                desk.sum(k, 1);
                desk.times(k, 1);
                desk.structure(k);
                desk.bound(k);
            }
            CHECK.due("after questions", Given.answers(desk), Given.answers(Given.curve(curve)));
        }
        TorsionDesk none = new TorsionDesk();
        for (int k : new int[] {Given.MIN, -1, 0, 1, 5, 12, 97, Given.MAX}) {
            none.candidate(k);
            none.point(k, 2);
            none.find(k, k);
            none.sum(k, k);
            none.times(k, k);
            none.structure(k);
            none.bound(k);
        }
        CHECK.due("without a curve, after questions", Given.answers(none), Given.answers(new TorsionDesk()));
    }
}
