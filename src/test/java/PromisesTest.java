/** The promises one by one: ordinary inputs, the edges that the document names, and wrong inputs. */
public final class PromisesTest {
    private static final int BAD = -1, ZERO = -2, SAME = -3, MISSES = -4, HIGH = -5, FULL = -6, NONE = -7;
    private static final int LEAST = Integer.MIN_VALUE, MOST = Integer.MAX_VALUE;
    private static int wrong = 0;
    private static int promise = 0;

    private static void due(String call, int got, int want) {
        if (got != want) {
            wrong++;
            System.out.println("promise " + promise + ": " + call + " answered " + got + ", due is " + want);
        }
    }

    public static void main(String[] args) {
        newObject();
        primes();
        primesThatAreRefused();
        primesCounted();
        why();
        stepsWithNumbers();
        stepsWithFigures();
        stepsThatMeetLines();
        stepsThatMeetCircles();
        stepsOnSlantedLines();
        stepsThatAreBad();
        stepsWhenFull();
        stepsThatAreHigh();
        back();
        thing();
        coordinate();
        base();
        one();
        on();
        way();
        square();
        degree();
        coefficient();
        conjugate();
        order();
        corners();
        count();
        System.out.println(wrong == 0 ? "all promises hold" : wrong + " answers are not as due");
        if (wrong != 0) System.exit(1);
    }

    /** A new object over p whose THINGS 0 .. are the NUMBERS given. */
    private static CompassTowers over(int p, int... given) {
        CompassTowers x = new CompassTowers();
        due("prime(" + p + ")", x.prime(p), 0);
        for (int i = 0; i < given.length; i++) due("given", x.step(0, given[i], 0, 0), i);
        return x;
    }

    private static void dueStep(CompassTowers x, int kind, int a, int b, int c, int want) {
        due("step(" + kind + ", " + a + ", " + b + ", " + c + ")", x.step(kind, a, b, c), want);
    }

    /** COORDINATES of one NUMBER, from the first on; those not told are 0. */
    private static void dueRow(CompassTowers x, int t, int i, int... want) {
        for (int j = 0; j < 8; j++) {
            due("coordinate(" + t + ", " + i + ", " + j + ")", x.coordinate(t, i, j), j < want.length ? want[j] : 0);
        }
    }

    /** First COORDINATES of all NUMBERS of a THING. */
    private static void dueFigure(CompassTowers x, int t, int... want) {
        for (int i = 0; i < want.length; i++) dueRow(x, t, i, want[i]);
        due("coordinate beyond", x.coordinate(t, want.length, 0), BAD);
    }

    private static void newObject() {
        promise = 1;
        CompassTowers x = new CompassTowers();
        int[] want = {0, 0, 3, 0, 0, 0, 0, 0};
        for (int what = 0; what < 8; what++) due("count(" + what + ")", x.count(what), want[what]);
        due("why()", x.why(), 0);
        due("back()", x.back(), NONE);
        due("thing(0, 0)", x.thing(0, 0), BAD);
        due("base(0, 0)", x.base(0, 0), BAD);
        CompassTowers y = new CompassTowers();
        due("step", y.step(0, 5, 0, 0), 0);
        due("count(0) of another object", x.count(0), 0);
        due("coordinate", y.coordinate(0, 0, 0), 2);
    }

    private static void primes() {
        promise = 2;
        CompassTowers x = new CompassTowers();
        int[] none = {LEAST, -7, -3, -1, 0, 1, 2, 4, 6, 9, 15, 25, 49, 32399, 32747, 32748, 32750, 32751, 32761, 32771, 65537, MOST};
        for (int p : none) due("prime(" + p + ")", x.prime(p), BAD);
        due("count(2)", x.count(2), 3);
        due("step", x.step(0, -32750, 0, 0), 0);
        due("coordinate", x.coordinate(0, 0, 0), 1);
        due("prime(32749)", x.prime(32749), 1);
        due("count(2)", x.count(2), 32749);
        due("coordinate", x.coordinate(0, 0, 0), 32748);
        due("thing(0, 2)", x.thing(0, 2), -32750);
        due("prime(5)", x.prime(5), 1);
        due("coordinate, by v as it was told", x.coordinate(0, 0, 0), 0);
        due("prime(5) again", x.prime(5), 1);
        due("prime(179)", x.prime(179), 1);
        due("prime(181)", x.prime(181), 1);
        due("prime(3)", x.prime(3), 1);

        // over 7 the root of 2 is 3; over 5 THE TOWER GROWS by it
        x = over(7, 2);
        dueStep(x, 5, 0, 0, 0, 1);
        due("count(1)", x.count(1), 0);
        due("prime(5)", x.prime(5), 2);
        due("count(1)", x.count(1), 1);
        due("base(0, 0)", x.base(0, 0), 2);
        due("thing(1, 6)", x.thing(1, 6), 1);
        dueRow(x, 1, 0, 0, 1);
        due("prime(7)", x.prime(7), 2);
        due("count(1)", x.count(1), 0);
        due("thing(1, 6)", x.thing(1, 6), 0);
        dueRow(x, 1, 0, 3);
    }

    private static void primesThatAreRefused() {
        promise = 2;
        CompassTowers x = over(7, 1, 5, 0, 3);
        dueStep(x, 5, 3, 0, 0, 4);
        dueStep(x, 4, 0, 1, 0, 5);
        due("prime(5)", x.prime(5), -25);
        due("why()", x.why(), ZERO);
        due("count(2)", x.count(2), 7);
        due("count(1)", x.count(1), 1);
        due("count(0)", x.count(0), 6);
        due("base(0, 0)", x.base(0, 0), 3);
        dueRow(x, 5, 0, 3);
        dueRow(x, 4, 0, 0, 1);
        dueStep(x, 1, 4, 0, 0, 6);
        dueRow(x, 6, 0, 1, 1);
        due("prime(11)", x.prime(11), 7);
        due("count(1)", x.count(1), 0);
        dueRow(x, 4, 0, 5);

        x = over(7, 0, 5);
        dueStep(x, 6, 0, 0, 0, 2);
        dueStep(x, 6, 1, 0, 0, 3);
        dueStep(x, 7, 2, 3, 0, 4);
        due("prime(5)", x.prime(5), -24);
        due("why()", x.why(), SAME);

        // the lines y = 1 and y = 5 x + 0: over 5 they go the same way
        x = over(7, 0, 1, 5);
        dueStep(x, 6, 0, 0, 0, 3);
        dueStep(x, 6, 1, 2, 0, 4);
        dueStep(x, 7, 3, 4, 0, 5);
        dueStep(x, 6, 0, 1, 0, 6);
        dueStep(x, 6, 1, 1, 0, 7);
        dueStep(x, 7, 6, 7, 0, 8);
        dueStep(x, 12, 5, 8, 0, 9);
        due("prime(5)", x.prime(5), -29);
        due("why()", x.why(), MISSES);
        dueFigure(x, 9, 3, 1);

        // over 7: 2, 3 (its square root), 2 and so on; over 5 the first of three roots is a new r already
        x = over(7, 2);
        for (int t = 1; t <= 4; t++) dueStep(x, 5, t - 1, 0, 0, t);
        due("count(1)", x.count(1), 1);
        due("prime(5)", x.prime(5), -24);
        due("why()", x.why(), HIGH);
        due("count(1)", x.count(1), 1);
        due("count(2)", x.count(2), 7);
    }

    private static void primesCounted() {
        promise = 2;
        CompassTowers x = new CompassTowers();
        for (int i = 0; i < 20; i++) due("prime(9)", x.prime(9), BAD);
        due("step", x.step(0, 1, 0, 0), 0);
        due("step", x.step(0, 7, 0, 0), 1);
        due("step", x.step(4, 0, 1, 0), 2);
        for (int i = 0; i < 6; i++) due("prime(7)", x.prime(7), -22);
        for (int i = 0; i < 6; i++) due("prime(5), time " + (i + 7), x.prime(5), 3);
        due("prime(7), time 13", x.prime(7), FULL);
        due("prime(11), time 14", x.prime(11), FULL);
        due("prime(4)", x.prime(4), BAD);
        due("count(2)", x.count(2), 5);
        due("why()", x.why(), ZERO);
    }

    private static void why() {
        promise = 3;
        CompassTowers x = over(7, 1, 5, 0);
        dueStep(x, 4, 0, 2, 0, ZERO);
        due("why() is of prime() alone", x.why(), 0);
        dueStep(x, 4, 0, 1, 0, 3);
        due("prime(5)", x.prime(5), -23);
        due("why()", x.why(), ZERO);
        due("prime(4)", x.prime(4), BAD);
        due("why()", x.why(), ZERO);
        due("prime(11)", x.prime(11), 4);
        due("why() is of the latest that answered so", x.why(), ZERO);
        due("back()", x.back(), 3);
        dueStep(x, 6, 2, 2, 0, 3);
        dueStep(x, 6, 1, 2, 0, 4);
        dueStep(x, 7, 3, 4, 0, 5);
        due("prime(5)", x.prime(5), -25);
        due("why()", x.why(), SAME);
    }

    private static void stepsWithNumbers() {
        promise = 4;
        CompassTowers x = over(7, MOST, LEAST, -1, 10, 0, 3);
        dueFigure(x, 0, 1);
        dueFigure(x, 1, 5);
        dueFigure(x, 2, 6);
        dueFigure(x, 3, 3);
        dueStep(x, 1, 1, 2, 0, 6);
        dueFigure(x, 6, 4);
        dueStep(x, 2, 0, 1, 0, 7);
        dueFigure(x, 7, 3);
        dueStep(x, 3, 1, 2, 0, 8);
        dueFigure(x, 8, 2);
        dueStep(x, 4, 1, 3, 0, 9);
        dueFigure(x, 9, 4);
        dueStep(x, 4, 1, 4, 0, ZERO);
        dueStep(x, 4, 4, 4, 0, ZERO);
        dueStep(x, 4, 4, 1, 0, 10);
        dueFigure(x, 10, 0);
        dueStep(x, 5, 4, 0, 0, 11);
        dueFigure(x, 11, 0);
        dueStep(x, 5, 8, 0, 0, 12);
        dueFigure(x, 12, 3);

        // r r is 3; (2 + r)(1 + 5 r) = 17 + 11 r; 1 / (2 + r) = 2 - r
        dueStep(x, 5, 5, 0, 0, 13);
        dueRow(x, 13, 0, 0, 1);
        due("count(1)", x.count(1), 1);
        dueStep(x, 1, 8, 13, 0, 14);
        dueRow(x, 14, 0, 2, 1);
        dueStep(x, 3, 1, 13, 0, 15);
        dueStep(x, 1, 0, 15, 0, 16);
        dueRow(x, 16, 0, 1, 5);
        dueStep(x, 3, 14, 16, 0, 17);
        dueRow(x, 17, 0, 3, 4);
        dueStep(x, 4, 0, 14, 0, 18);
        dueRow(x, 18, 0, 2, 6);
        dueStep(x, 2, 14, 16, 0, 19);
        dueRow(x, 19, 0, 1, 3);
        dueStep(x, 4, 17, 16, 0, 20);
        due("one(20, 14)", x.one(20, 14), 1);
        // the squares of 2 + r and of 5 + 6 r are one: that with the lesser COORDINATES is THE ROOT
        dueStep(x, 2, 4, 14, 0, 21);
        dueRow(x, 21, 0, 5, 6);
        dueStep(x, 3, 21, 21, 0, 22);
        dueStep(x, 5, 22, 0, 0, 23);
        dueRow(x, 23, 0, 2, 1);
        // the first COORDINATE being 0 in both, the second one tells
        dueStep(x, 5, 1, 0, 0, 24);
        dueRow(x, 24, 0, 0, 2);
        due("thing(24, 6)", x.thing(24, 6), 0);
    }

    private static void stepsWithFigures() {
        promise = 4;
        CompassTowers x = over(13, 0, 1, 2, 5);
        dueStep(x, 6, 0, 1, 0, 4);
        dueFigure(x, 4, 0, 1);
        dueStep(x, 6, 2, 3, 0, 5);
        dueStep(x, 6, 2, 1, 0, 6);
        dueStep(x, 7, 4, 5, 0, 7);
        // y = 2 x + 1
        dueFigure(x, 7, 11, 1, 12);
        dueStep(x, 7, 5, 4, 0, 8);
        dueFigure(x, 8, 11, 1, 12);
        dueStep(x, 7, 5, 6, 0, 9);
        dueFigure(x, 9, 1, 0, 11);
        dueStep(x, 7, 6, 4, 0, 10);
        dueFigure(x, 10, 0, 1, 12);
        dueStep(x, 7, 6, 6, 0, SAME);
        dueStep(x, 6, 2, 1, 0, 11);
        dueStep(x, 7, 6, 11, 0, SAME);

        dueStep(x, 8, 4, 5, 0, 12);
        dueFigure(x, 12, 0, 1, 7);
        dueStep(x, 8, 5, 5, 0, 13);
        dueFigure(x, 13, 2, 5, 0);
        dueStep(x, 9, 6, 4, 5, 14);
        dueFigure(x, 14, 2, 1, 7);
        dueStep(x, 9, 6, 5, 6, 15);
        dueFigure(x, 15, 2, 1, 3);

        // square to y = 2 x + 1 through (2, 5): x + 2 y = 12
        dueStep(x, 10, 7, 5, 0, 16);
        dueFigure(x, 16, 7, 1, 7);
        dueStep(x, 10, 9, 5, 0, 17);
        dueFigure(x, 17, 0, 1, 8);
        dueStep(x, 10, 10, 5, 0, 18);
        dueFigure(x, 18, 1, 0, 11);
        dueStep(x, 11, 7, 6, 0, 19);
        dueFigure(x, 19, 11, 1, 3);
        dueStep(x, 11, 9, 4, 0, 20);
        dueFigure(x, 20, 1, 0, 0);
        dueStep(x, 11, 7, 4, 0, 21);
        due("one(21, 7)", x.one(21, 7), 1);

        int t = 22;
        int[][] parts = {{5, 2, 5}, {7, 11, 1, 12}, {14, 2, 1, 7}};
        for (int[] part : parts) {
            for (int i = 0; i + 1 < part.length; i++) {
                dueStep(x, 13, part[0], i, 99, t);
                dueFigure(x, t, part[i + 1]);
                due("thing(" + t + ", 0)", x.thing(t, 0), 0);
                t++;
            }
            dueStep(x, 13, part[0], part.length - 1, 0, BAD);
            dueStep(x, 13, part[0], -1, 0, BAD);
        }
    }

    private static void stepsThatMeetLines() {
        promise = 4;
        CompassTowers x = over(13, 0, 1, 2, 5);
        dueStep(x, 6, 0, 0, 0, 4);
        dueStep(x, 6, 1, 2, 0, 5);
        dueStep(x, 6, 2, 0, 0, 6);
        dueStep(x, 7, 4, 5, 0, 7);
        dueStep(x, 7, 5, 6, 0, 8);
        // y = 2 x and y = -2 x + 4
        dueStep(x, 12, 7, 8, 0, 9);
        dueFigure(x, 9, 1, 2);
        dueStep(x, 12, 8, 7, 0, 10);
        dueFigure(x, 10, 1, 2);
        dueStep(x, 12, 7, 8, 1, MISSES);
        dueStep(x, 11, 7, 6, 0, 11);
        dueStep(x, 12, 7, 11, 0, MISSES);
        dueStep(x, 12, 7, 11, 1, MISSES);
        dueStep(x, 11, 7, 5, 0, 12);
        dueStep(x, 12, 7, 12, 0, SAME);
        dueStep(x, 12, 7, 12, 1, SAME);
        // x = 5, with both, and with another upright one
        dueStep(x, 6, 3, 1, 0, 13);
        dueStep(x, 6, 3, 2, 0, 14);
        dueStep(x, 7, 13, 14, 0, 15);
        dueStep(x, 12, 15, 7, 0, 16);
        dueFigure(x, 16, 5, 10);
        dueStep(x, 12, 8, 15, 0, 17);
        dueFigure(x, 17, 5, 7);
        dueStep(x, 11, 15, 4, 0, 18);
        dueStep(x, 12, 15, 18, 0, MISSES);
        due("count(3)", x.count(3), 6);
        due("thing(17, 5)", x.thing(17, 5), 0);
    }

    private static void stepsThatMeetCircles() {
        promise = 4;
        // over 7: y = 0, x = 0, and the circles round (0, 0) with span 2 and 3
        CompassTowers x = over(7, 0, 1, 3);
        dueStep(x, 6, 0, 0, 0, 3);
        dueStep(x, 6, 1, 0, 0, 4);
        dueStep(x, 6, 0, 1, 0, 5);
        dueStep(x, 6, 1, 1, 0, 6);
        dueStep(x, 6, 1, 2, 0, 7);
        dueStep(x, 7, 3, 4, 0, 8);
        dueStep(x, 7, 3, 5, 0, 9);
        dueStep(x, 8, 3, 6, 0, 10);
        dueStep(x, 8, 3, 7, 0, 11);
        // E = 8 = 1, THE ROOT 1: -1 / 2 = 3 and 1 / 2 = 4
        dueStep(x, 12, 8, 10, 0, 12);
        dueFigure(x, 12, 3, 0);
        dueStep(x, 12, 10, 8, 1, 13);
        dueFigure(x, 13, 4, 0);
        dueStep(x, 12, 9, 10, 0, 14);
        dueFigure(x, 14, 0, 3);
        dueStep(x, 12, 10, 9, 1, 15);
        dueFigure(x, 15, 0, 4);
        due("count(1)", x.count(1), 0);
        // E = 12 = 5 is no SQUARE: THE TOWER GROWS by it, whichever POINT is asked for
        dueStep(x, 12, 8, 11, 1, 16);
        due("base(0, 0)", x.base(0, 0), 5);
        dueRow(x, 16, 0, 0, 4);
        dueRow(x, 16, 1);
        due("thing(16, 5)", x.thing(16, 5), 3);
        due("thing(16, 6)", x.thing(16, 6), 1);
        due("thing(16, 7)", x.thing(16, 7), 1);
        dueStep(x, 12, 8, 11, 0, 17);
        dueRow(x, 17, 0, 0, 3);
        due("thing(17, 5)", x.thing(17, 5), 0);
        dueStep(x, 12, 9, 11, 0, 18);
        dueRow(x, 18, 0);
        dueRow(x, 18, 1, 0, 3);

        // one centre; ONE; a span of 0; touching
        dueStep(x, 12, 10, 11, 0, MISSES);
        dueStep(x, 12, 10, 11, 1, MISSES);
        dueStep(x, 12, 10, 10, 1, SAME);
        dueStep(x, 9, 3, 6, 3, 19);
        dueStep(x, 12, 19, 10, 0, SAME);
        dueStep(x, 8, 3, 4, 0, 20);
        dueStep(x, 7, 5, 6, 0, 21);
        dueStep(x, 12, 21, 20, 0, 22);
        dueFigure(x, 22, 0, 1);
        dueStep(x, 12, 21, 20, 1, MISSES);
        // the unit circle and that round (1, 1) with span 1 meet in (0, 1) and (1, 0)
        dueStep(x, 8, 6, 4, 0, 23);
        dueStep(x, 12, 20, 23, 0, 24);
        dueFigure(x, 24, 0, 1);
        dueStep(x, 12, 23, 20, 1, 25);
        dueFigure(x, 25, 1, 0);
        // round (1, 0) through (0, 0), with the unit circle: on x = 1 / 2 = 4, y = -R / 2 or R / 2
        dueStep(x, 8, 4, 3, 0, 26);
        dueStep(x, 12, 20, 26, 0, 27);
        due("on(27, 20)", x.on(27, 20), 1);
        due("on(27, 26)", x.on(27, 26), 1);
        dueRow(x, 27, 0, 4);
    }

    private static void stepsOnSlantedLines() {
        promise = 4;
        // over 5 the line y = 2 x has A = 0
        CompassTowers x = over(5, 0, 1, 2);
        dueStep(x, 6, 0, 0, 0, 3);
        dueStep(x, 6, 1, 2, 0, 4);
        dueStep(x, 6, 1, 0, 0, 5);
        dueStep(x, 7, 3, 4, 0, 6);
        dueStep(x, 8, 3, 5, 0, 7);
        dueStep(x, 12, 6, 7, 0, MISSES);
        dueStep(x, 12, 6, 7, 1, MISSES);
        dueStep(x, 8, 3, 3, 0, 8);
        dueStep(x, 12, 6, 8, 0, SAME);
        dueStep(x, 12, 8, 6, 1, SAME);
        dueStep(x, 8, 5, 5, 0, 9);
        dueStep(x, 12, 6, 9, 0, 10);
        dueFigure(x, 10, 3, 1);
        dueStep(x, 12, 6, 9, 1, MISSES);
        // such a line is square to itself, and that is told ahead
        dueStep(x, 10, 6, 5, 0, 11);
        due("way(6, 11)", x.way(6, 11), 2);
        due("way(6, 6)", x.way(6, 6), 2);
        dueFigure(x, 11, 3, 1, 2);
        // two circles whose centres lie on such a line: spans 0 and 0 share the line itself
        dueStep(x, 8, 4, 4, 0, 12);
        dueStep(x, 12, 8, 12, 0, SAME);
        dueStep(x, 9, 4, 3, 5, 13);
        dueStep(x, 12, 7, 13, 0, MISSES);
        dueStep(x, 12, 8, 13, 1, MISSES);
        dueStep(x, 12, 8, 13, 0, 14);
        dueFigure(x, 14, 1, 3);
        due("count(1)", x.count(1), 0);
    }

    private static void stepsThatAreBad() {
        promise = 4;
        CompassTowers x = over(7, 0, 1);
        dueStep(x, 6, 0, 1, 0, 2);
        dueStep(x, 6, 1, 1, 0, 3);
        dueStep(x, 7, 2, 3, 0, 4);
        dueStep(x, 8, 2, 3, 0, 5);
        int[] kinds = {LEAST, -1, 14, MOST};
        for (int kind : kinds) dueStep(x, kind, 0, 0, 0, BAD);
        int[] none = {LEAST, -1, 6, 60, MOST};
        // of each KIND THINGS that would do; each of them in turn is changed into one that is none, or of another sort
        int[][] good = {{1, 0, 1}, {2, 0, 1}, {3, 0, 1}, {4, 0, 1}, {5, 1}, {6, 0, 1}, {7, 2, 3}, {8, 2, 3}, {9, 2, 3, 2},
            {10, 4, 2}, {11, 4, 2}, {12, 4, 5}, {13, 4}};
        int[][] sorts = {{1, 1}, {1, 1}, {1, 1}, {1, 1}, {1}, {1, 1}, {2, 2}, {2, 2}, {2, 2, 2}, {4, 2}, {4, 2}, {12, 12}, {14}};
        int[] sortOf = {0, 0, 1, 1, 2, 3};
        for (int n = 0; n < good.length; n++) {
            for (int at = 1; at < good[n].length; at++) {
                for (int t : none) dueStepWith(x, good[n], at, t);
                for (int t = 0; t < 6; t++) if ((sorts[n][at - 1] >> sortOf[t] & 1) == 0) dueStepWith(x, good[n], at, t);
            }
        }
        int[] places = {LEAST, -1, 2, MOST};
        for (int i : places) {
            dueStep(x, 12, 4, 5, i, BAD);
            dueStep(x, 12, 4, 4, i, BAD);
            dueStep(x, 13, 2, i, 0, BAD);
        }
        dueStep(x, 13, 4, 3, 0, BAD);
        dueStep(x, 13, 5, 3, 0, BAD);
        due("count(0)", x.count(0), 6);
        // what a KIND does not tell may be anything
        dueStep(x, 0, 5, MOST, LEAST, 6);
        dueStep(x, 1, 0, 1, -9, 7);
        dueStep(x, 5, 1, -9, 99, 8);
        dueStep(x, 13, 2, 1, -9, 9);
        dueStep(x, 7, 2, 3, -9, 10);
        for (int what = 2; what <= 4; what++) {
            due("thing(6, " + what + ")", x.thing(6, what), what == 2 ? 5 : 0);
            due("thing(8, " + what + ")", x.thing(8, what), what == 2 ? 1 : 0);
            due("thing(10, " + what + ")", x.thing(10, what), what == 4 ? 0 : what);
        }
    }

    private static void dueStepWith(CompassTowers x, int[] good, int at, int t) {
        int[] told = new int[4];
        System.arraycopy(good, 0, told, 0, good.length);
        told[at] = t;
        dueStep(x, told[0], told[1], told[2], told[3], BAD);
    }

    private static void stepsWhenFull() {
        promise = 4;
        CompassTowers x = over(5, 0, 2);
        dueStep(x, 6, 0, 0, 0, 2);
        for (int t = 3; t < 60; t++) dueStep(x, 0, t, 0, 0, t);
        dueStep(x, 0, 1, 0, 0, FULL);
        dueStep(x, 14, 1, 0, 0, BAD);
        dueStep(x, 1, 0, 60, 0, BAD);
        dueStep(x, 1, 0, 2, 0, BAD);
        dueStep(x, 1, 0, 59, 0, FULL);
        dueStep(x, 4, 1, 0, 0, FULL);
        dueStep(x, 7, 2, 2, 0, FULL);
        dueStep(x, 5, 1, 0, 0, FULL);
        due("count(1)", x.count(1), 0);
        due("count(0)", x.count(0), 60);
        due("prime(7)", x.prime(7), 60);
        due("coordinate(59, 0, 0)", x.coordinate(59, 0, 0), 3);
        due("back()", x.back(), 59);
        dueStep(x, 5, 0, 0, 0, 59);
        dueStep(x, 5, 0, 0, 0, FULL);
    }

    private static void stepsThatAreHigh() {
        promise = 4;
        // over 5: r r = 2, s s = r, t t = s
        CompassTowers x = over(5, 2, 0);
        for (int t = 2; t <= 4; t++) dueStep(x, 5, t == 2 ? 0 : t - 1, 0, 0, t);
        dueRow(x, 2, 0, 0, 1);
        dueRow(x, 3, 0, 0, 0, 1);
        dueRow(x, 4, 0, 0, 0, 0, 0, 1);
        dueStep(x, 5, 4, 0, 0, HIGH);
        due("count(0)", x.count(0), 5);
        due("count(1)", x.count(1), 3);
        // MEET of y = 0 and a circle round (0, 0), the span's root being none
        dueStep(x, 6, 1, 1, 0, 5);
        dueStep(x, 6, 0, 1, 0, 6);
        dueStep(x, 7, 5, 6, 0, 7);
        dueStep(x, 3, 4, 3, 0, 8);
        dueStep(x, 6, 4, 1, 0, 9);
        dueStep(x, 8, 5, 9, 0, 10);
        dueStep(x, 12, 7, 10, 0, 11);
        due("one(11, 9)", x.one(11, 9), 0);
        dueStep(x, 12, 7, 10, 1, 12);
        due("one(12, 9)", x.one(12, 9), 1);
        dueStep(x, 0, 1, 0, 0, 13);
        dueStep(x, 4, 13, 0, 0, 14);
        dueStep(x, 1, 4, 13, 0, 15);
        dueStep(x, 3, 15, 14, 0, 16);
        dueStep(x, 2, 15, 13, 0, 17);
        due("one(17, 4)", x.one(17, 4), 1);
        // (1 + t) / 2 and i (1 - t) / 2 with i = 2: their squares together are t
        dueStep(x, 2, 13, 4, 0, 18);
        dueStep(x, 6, 16, 18, 0, 19);
        dueStep(x, 8, 5, 19, 0, 20);
        dueStep(x, 12, 7, 20, 0, HIGH);
        dueStep(x, 12, 7, 20, 1, HIGH);
        dueStep(x, 13, 20, 2, 0, 21);
        due("square(21, 3)", x.square(21, 3), 0);
        due("count(1)", x.count(1), 3);
    }

    private static void back() {
        promise = 5;
        CompassTowers x = over(5, 2, 3);
        dueStep(x, 5, 0, 0, 0, 2);
        dueStep(x, 5, 2, 0, 0, 3);
        due("count(1)", x.count(1), 2);
        due("count(3)", x.count(3), 4);
        due("back()", x.back(), 3);
        due("count(1)", x.count(1), 1);
        due("base(1, 0)", x.base(1, 0), BAD);
        due("thing(3, 0)", x.thing(3, 0), BAD);
        due("count(3)", x.count(3), 2);
        // 1 + r has the norm 1 - 2, a SQUARE; 2 + r has 4 - 2, none
        dueStep(x, 0, 1, 0, 0, 3);
        dueStep(x, 1, 3, 2, 0, 4);
        due("square(4, 1)", x.square(4, 1), 1);
        dueStep(x, 3, 4, 2, 0, 5);
        dueStep(x, 5, 5, 0, 0, 6);
        due("base(1, 0)", x.base(1, 0), 2);
        due("base(1, 1)", x.base(1, 1), 1);
        dueStep(x, 3, 6, 6, 0, 7);
        dueRow(x, 7, 0, 2, 1);
        for (int t = 7; t >= 3; t--) due("back()", x.back(), t);
        due("back()", x.back(), 2);
        due("count(1)", x.count(1), 0);
        dueStep(x, 5, 1, 0, 0, 2);
        due("base(0, 0)", x.base(0, 0), 3);
        dueStep(x, 3, 2, 2, 0, 3);
        dueRow(x, 3, 0, 3);
        dueStep(x, 4, 0, 1, 0, 4);
        dueStep(x, 4, 0, 9, 0, BAD);
        due("back() behind a refusal", x.back(), 4);
        for (int t = 3; t >= 0; t--) due("back()", x.back(), t);
        due("back()", x.back(), NONE);
        due("back()", x.back(), NONE);
        due("count(1)", x.count(1), 0);
        due("count(2)", x.count(2), 5);
    }

    private static void thing() {
        promise = 6;
        CompassTowers x = over(7, 0, 1, 3, -4);
        dueStep(x, 6, 0, 0, 9, 4);
        dueStep(x, 6, 1, 0, 9, 5);
        dueStep(x, 6, 1, 2, 9, 6);
        dueStep(x, 7, 4, 5, 9, 7);
        dueStep(x, 9, 4, 6, 4, 8);
        dueStep(x, 12, 7, 8, 1, 9);
        dueStep(x, 13, 9, 0, 9, 10);
        dueStep(x, 5, 2, 9, 9, 11);
        dueStep(x, 5, 10, 9, 9, 12);
        dueStep(x, 10, 7, 9, 9, 13);
        int[][] want = {
            {0, 0, 0, 0, 0, 0, 0, 0}, {0, 0, 1, 0, 0, 0, 0, 0}, {0, 0, 3, 0, 0, 0, 0, 0}, {0, 0, -4, 0, 0, 0, 0, 0},
            {1, 6, 0, 0, 0, 0, 0, 0}, {1, 6, 1, 0, 0, 0, 0, 0}, {1, 6, 1, 2, 0, 0, 0, 0},
            {2, 7, 4, 5, 0, 1, 0, 0}, {3, 9, 4, 6, 4, 1, 0, 0}, {1, 12, 7, 8, 1, 3, 1, 1},
            {0, 13, 9, 0, 0, 0, 0, 1}, {0, 5, 2, 0, 0, 0, 0, 1}, {0, 5, 10, 0, 0, 0, 0, 1}, {2, 10, 7, 9, 0, 1, 0, 1}};
        for (int t = 0; t < want.length; t++) {
            for (int what = 0; what < 8; what++) due("thing(" + t + ", " + what + ")", x.thing(t, what), want[t][what]);
        }
        int[] others = {LEAST, -1, 8, MOST};
        for (int what : others) {
            due("thing(0, " + what + ")", x.thing(0, what), NONE);
            due("thing(14, " + what + ")", x.thing(14, what), BAD);
        }
        int[] none = {LEAST, -1, 14, 60, MOST};
        for (int t : none) due("thing(" + t + ", 0)", x.thing(t, 0), BAD);
        CompassTowers y = over(7, 3);
        dueStep(y, 5, 0, 0, 0, 1);
        due("thing(1, 5)", y.thing(1, 5), 2);
        due("thing(1, 6)", y.thing(1, 6), 1);
        due("thing(1, 7)", y.thing(1, 7), 1);
        dueStep(y, 3, 1, 1, 0, 2);
        due("thing(2, 7)", y.thing(2, 7), 0);
    }

    private static void coordinate() {
        promise = 7;
        CompassTowers x = over(5, 2, 4);
        dueStep(x, 5, 0, 0, 0, 2);
        dueStep(x, 5, 2, 0, 0, 3);
        dueStep(x, 5, 3, 0, 0, 4);
        // s t, r t, and r s t + 4
        dueStep(x, 3, 3, 4, 0, 5);
        dueStep(x, 3, 2, 4, 0, 6);
        dueStep(x, 3, 5, 2, 0, 7);
        dueStep(x, 1, 7, 1, 0, 8);
        dueRow(x, 4, 0, 0, 0, 0, 0, 1);
        dueRow(x, 5, 0, 0, 0, 0, 0, 0, 0, 1);
        dueRow(x, 6, 0, 0, 0, 0, 0, 0, 1);
        dueRow(x, 8, 0, 4, 0, 0, 0, 0, 0, 0, 1);
        dueStep(x, 6, 8, 0, 0, 9);
        dueRow(x, 9, 0, 4, 0, 0, 0, 0, 0, 0, 1);
        dueRow(x, 9, 1, 2);
        dueStep(x, 8, 9, 9, 0, 10);
        dueRow(x, 10, 2);
        int[] places = {LEAST, -1, 8, MOST};
        for (int j : places) due("coordinate(8, 0, " + j + ")", x.coordinate(8, 0, j), BAD);
        int[] numbers = {LEAST, -1, 1, 2, 3, MOST};
        for (int i : numbers) due("coordinate(8, " + i + ", 0)", x.coordinate(8, i, 0), BAD);
        due("coordinate(9, 2, 0)", x.coordinate(9, 2, 0), BAD);
        due("coordinate(10, 3, 0)", x.coordinate(10, 3, 0), BAD);
        int[] none = {LEAST, -1, 11, MOST};
        for (int t : none) due("coordinate(" + t + ", 0, 0)", x.coordinate(t, 0, 0), BAD);
    }

    private static void base() {
        promise = 8;
        CompassTowers x = over(5, 2);
        due("base(0, 0)", x.base(0, 0), BAD);
        dueStep(x, 5, 0, 0, 0, 1);
        dueStep(x, 5, 1, 0, 0, 2);
        dueStep(x, 5, 2, 0, 0, 3);
        int[][] want = {{2, 0, 0, 0}, {0, 1, 0, 0}, {0, 0, 1, 0}};
        for (int k = 0; k < 3; k++) {
            for (int j = 0; j < 4; j++) due("base(" + k + ", " + j + ")", x.base(k, j), want[k][j]);
        }
        int[] wrongOnes = {LEAST, -1, 4, MOST};
        for (int j : wrongOnes) due("base(0, " + j + ")", x.base(0, j), BAD);
        for (int k : wrongOnes) due("base(" + k + ", 0)", x.base(k, 0), BAD);
        due("base(3, 0)", x.base(3, 0), BAD);
        due("back()", x.back(), 3);
        due("base(2, 0)", x.base(2, 0), BAD);
        due("base(1, 1)", x.base(1, 1), 1);
    }

    private static void one() {
        promise = 9;
        CompassTowers x = over(7, 1, 8, 2, 0);
        due("one(0, 1)", x.one(0, 1), 1);
        due("one(0, 0)", x.one(0, 0), 1);
        due("one(0, 2)", x.one(0, 2), 0);
        dueStep(x, 6, 0, 3, 0, 4);
        dueStep(x, 6, 1, 3, 0, 5);
        dueStep(x, 6, 1, 2, 0, 6);
        due("one(4, 5)", x.one(4, 5), 1);
        due("one(4, 6)", x.one(4, 6), 0);
        due("one(4, 0)", x.one(4, 0), 0);
        dueStep(x, 7, 4, 6, 0, 7);
        dueStep(x, 7, 6, 4, 0, 8);
        dueStep(x, 8, 4, 6, 0, 9);
        dueStep(x, 8, 6, 4, 0, 10);
        dueStep(x, 9, 5, 4, 6, 11);
        dueStep(x, 8, 4, 4, 0, 12);
        due("one(7, 8)", x.one(7, 8), 1);
        due("one(9, 10)", x.one(9, 10), 0);
        due("one(9, 11)", x.one(9, 11), 1);
        due("one(9, 12)", x.one(9, 12), 0);
        // the LINE x = 1 and a CIRCLE round (1, 0): other sorts, whatever the NUMBERS
        due("one(7, 12)", x.one(7, 12), 0);
        int[] none = {LEAST, -1, 13, MOST};
        for (int t : none) {
            due("one(" + t + ", 0)", x.one(t, 0), BAD);
            due("one(0, " + t + ")", x.one(0, t), BAD);
        }
    }

    private static void on() {
        promise = 10;
        CompassTowers x = over(7, 0, 1, 2, 3);
        dueStep(x, 6, 0, 0, 0, 4);
        dueStep(x, 6, 1, 2, 0, 5);
        dueStep(x, 6, 2, 1, 0, 6);
        dueStep(x, 7, 4, 5, 0, 7);
        dueStep(x, 8, 4, 5, 0, 8);
        dueStep(x, 6, 2, 2, 0, 9);
        due("on(4, 7)", x.on(4, 7), 1);
        due("on(5, 7)", x.on(5, 7), 1);
        due("on(6, 7)", x.on(6, 7), 0);
        due("on(4, 8)", x.on(4, 8), 0);
        due("on(5, 8)", x.on(5, 8), 1);
        due("on(6, 8)", x.on(6, 8), 1);
        due("on(9, 8)", x.on(9, 8), 0);
        int[] noPoint = {LEAST, -1, 0, 7, 8, 10, MOST};
        for (int p : noPoint) due("on(" + p + ", 7)", x.on(p, 7), BAD);
        int[] noCurve = {LEAST, -1, 0, 4, 10, MOST};
        for (int t : noCurve) due("on(4, " + t + ")", x.on(4, t), BAD);
    }

    private static void way() {
        promise = 11;
        CompassTowers x = over(7, 0, 1, 2, 6);
        dueStep(x, 6, 0, 0, 0, 4);
        dueStep(x, 6, 1, 2, 0, 5);
        dueStep(x, 6, 2, 3, 0, 6);
        dueStep(x, 6, 2, 1, 0, 7);
        dueStep(x, 7, 4, 5, 0, 8);
        dueStep(x, 7, 4, 6, 0, 9);
        dueStep(x, 11, 8, 7, 0, 10);
        dueStep(x, 7, 5, 7, 0, 11);
        // y = 2 x; y = -x / 2; y = 2 x - 3; y = 3 - x
        due("way(8, 9)", x.way(8, 9), 2);
        due("way(9, 8)", x.way(9, 8), 2);
        due("way(8, 10)", x.way(8, 10), 1);
        due("way(8, 8)", x.way(8, 8), 1);
        due("way(8, 11)", x.way(8, 11), 0);
        dueStep(x, 6, 0, 1, 0, 12);
        dueStep(x, 7, 4, 12, 0, 13);
        dueStep(x, 11, 13, 7, 0, 14);
        dueStep(x, 10, 13, 7, 0, 15);
        due("way(13, 14)", x.way(13, 14), 1);
        due("way(13, 15)", x.way(13, 15), 2);
        due("way(13, 8)", x.way(13, 8), 0);
        int[] noLine = {LEAST, -1, 0, 4, 16, MOST};
        for (int l : noLine) {
            due("way(" + l + ", 8)", x.way(l, 8), BAD);
            due("way(8, " + l + ")", x.way(8, l), BAD);
        }
        dueStep(x, 8, 4, 5, 0, 16);
        due("way(16, 8)", x.way(16, 8), BAD);
    }

    private static void square() {
        promise = 12;
        CompassTowers x = over(13, 0, 1, 2, 3, 4, 5, 6, 7, 8, 9, 10, 11, 12);
        int[] squares = {1, 1, 0, 1, 1, 0, 0, 0, 0, 1, 1, 0, 1};
        for (int t = 0; t < 13; t++) due("square(" + t + ", 0)", x.square(t, 0), squares[t]);
        due("square(0, 1)", x.square(0, 1), BAD);
        due("square(0, -1)", x.square(0, -1), BAD);
        dueStep(x, 5, 2, 0, 0, 13);
        due("square(2, 0)", x.square(2, 0), 0);
        due("square(2, 1)", x.square(2, 1), 1);
        due("square(13, 0)", x.square(13, 0), BAD);
        due("square(13, 1)", x.square(13, 1), 0);
        due("square(13, 2)", x.square(13, 2), BAD);
        dueStep(x, 5, 13, 0, 0, 14);
        due("square(13, 1)", x.square(13, 1), 0);
        due("square(13, 2)", x.square(13, 2), 1);
        due("square(14, 2)", x.square(14, 2), 0);
        due("square(14, 1)", x.square(14, 1), BAD);
        dueStep(x, 5, 14, 0, 0, 15);
        due("square(15, 3)", x.square(15, 3), 0);
        due("square(14, 3)", x.square(14, 3), 1);
        due("square(14, 4)", x.square(14, 4), BAD);
        dueStep(x, 3, 15, 15, 0, 16);
        due("square(16, 2)", x.square(16, 2), 0);
        dueStep(x, 6, 0, 0, 0, 17);
        int[] none = {LEAST, -1, 17, 18, MOST};
        for (int t : none) due("square(" + t + ", 3)", x.square(t, 3), BAD);
        due("square(0, MOST)", x.square(0, MOST), BAD);
        due("square(0, LEAST)", x.square(0, LEAST), BAD);
    }

    /** Over 5: 2, r, s, t, 1, then 1 + r, 1 + s, r + t, and a POINT. */
    private static CompassTowers roots() {
        CompassTowers x = over(5, 2);
        for (int t = 1; t <= 3; t++) dueStep(x, 5, t - 1, 0, 0, t);
        dueStep(x, 0, 1, 0, 0, 4);
        dueStep(x, 1, 4, 1, 0, 5);
        dueStep(x, 1, 4, 2, 0, 6);
        dueStep(x, 1, 1, 3, 0, 7);
        dueStep(x, 6, 0, 0, 0, 8);
        return x;
    }

    private static final int[] NO_NUMBER = {LEAST, -1, 8, 9, MOST};

    private static void degree() {
        promise = 13;
        CompassTowers x = roots();
        int[] want = {1, 2, 4, 8, 1, 2, 4, 8};
        for (int t = 0; t < 8; t++) due("degree(" + t + ")", x.degree(t), want[t]);
        for (int t : NO_NUMBER) due("degree(" + t + ")", x.degree(t), BAD);
        dueStep(x, 2, 0, 0, 0, 9);
        due("degree of 0", x.degree(9), 1);
    }

    private static void coefficient() {
        promise = 14;
        CompassTowers x = roots();
        // t - 2; t^2 - 2; t^4 - 2; t^8 - 2; t - 1; (t - 1)^2 - 2; (t - 1)^4 - 2
        int[][] want = {{3, 1}, {3, 0, 1}, {3, 0, 0, 0, 1}, {3, 0, 0, 0, 0, 0, 0, 0, 1}, {4, 1}, {4, 3, 1}, {4, 1, 1, 1, 1}};
        for (int t = 0; t < want.length; t++) {
            for (int i = 0; i < 12; i++) {
                due("coefficient(" + t + ", " + i + ")", x.coefficient(t, i), i < want[t].length ? want[t][i] : 0);
            }
            due("coefficient(" + t + ", MOST)", x.coefficient(t, MOST), 0);
            due("coefficient(" + t + ", -1)", x.coefficient(t, -1), BAD);
            due("coefficient(" + t + ", LEAST)", x.coefficient(t, LEAST), BAD);
        }
        // r + t is a root of what its coefficients tell
        int[] powers = new int[9];
        powers[0] = 4;
        int at = 9;
        for (int i = 1; i <= 8; i++, at++) {
            dueStep(x, 3, powers[i - 1], 7, 0, at);
            powers[i] = at;
        }
        int sum = at;
        dueStep(x, 0, 0, 0, 0, at++);
        for (int i = 0; i <= 8; i++) {
            dueStep(x, 0, x.coefficient(7, i), 0, 0, at);
            dueStep(x, 3, at, powers[i], 0, at + 1);
            dueStep(x, 1, sum, at + 1, 0, at + 2);
            sum = at + 2;
            at += 3;
        }
        dueRow(x, sum, 0);
        due("coefficient(7, 8)", x.coefficient(7, 8), 1);
        for (int t : NO_NUMBER) due("coefficient", roots().coefficient(t, 0), BAD);
    }

    private static void conjugate() {
        promise = 15;
        CompassTowers x = roots();
        // r^5 = 2 2 r = -r, s^5 = r r s = 2 s, s^25 = -s
        int[][] ofS = {{0, 0, 1}, {0, 0, 2}, {0, 0, 4}, {0, 0, 3}};
        for (int i = 0; i < 6; i++) {
            for (int j = 0; j < 8; j++) {
                int want = i >= 4 ? NONE : j < ofS[i].length ? ofS[i][j] : 0;
                due("conjugate(2, " + i + ", " + j + ")", x.conjugate(2, i, j), want);
            }
        }
        due("conjugate(5, 0, 1)", x.conjugate(5, 0, 1), 1);
        due("conjugate(5, 1, 0)", x.conjugate(5, 1, 0), 1);
        due("conjugate(5, 1, 1)", x.conjugate(5, 1, 1), 4);
        due("conjugate(5, 2, 1)", x.conjugate(5, 2, 1), NONE);
        due("conjugate(0, 0, 0)", x.conjugate(0, 0, 0), 2);
        due("conjugate(0, 1, 0)", x.conjugate(0, 1, 0), NONE);
        // t^5 = s s t = r t
        due("conjugate(3, 1, 5)", x.conjugate(3, 1, 5), 1);
        due("conjugate(3, 1, 4)", x.conjugate(3, 1, 4), 0);
        due("conjugate(3, 4, 4)", x.conjugate(3, 4, 4), 4);
        due("conjugate(7, 4, 1)", x.conjugate(7, 4, 1), 1);
        due("conjugate(7, 7, 1)", x.conjugate(7, 7, 1), 4);
        due("conjugate(3, 8, 0)", x.conjugate(3, 8, 0), NONE);
        due("conjugate(3, MOST, 0)", x.conjugate(3, MOST, 0), NONE);
        int[] below = {-1, LEAST};
        for (int i : below) due("conjugate(3, " + i + ", 0)", x.conjugate(3, i, 0), BAD);
        int[] places = {LEAST, -1, 8, MOST};
        for (int j : places) {
            due("conjugate(3, 0, " + j + ")", x.conjugate(3, 0, j), BAD);
            due("conjugate(3, 9, " + j + ")", x.conjugate(3, 9, j), BAD);
        }
        for (int t : NO_NUMBER) due("conjugate(" + t + ", 0, 0)", x.conjugate(t, 0, 0), BAD);
    }

    private static void order() {
        promise = 16;
        CompassTowers x = roots();
        // 2 has order 4, so its roots have 8, 16, 32
        int[] want = {4, 8, 16, 32, 1};
        for (int t = 0; t < want.length; t++) due("order(" + t + ")", x.order(t), want[t]);
        for (int t : NO_NUMBER) due("order(" + t + ")", x.order(t), BAD);
        dueStep(x, 2, 0, 0, 0, 9);
        due("order(9)", x.order(9), ZERO);
        // 3 is a primitive root of 4001, 2 one of 4003
        x = over(4001, 3, 0, -1);
        due("order(0)", x.order(0), 4000);
        due("order(1)", x.order(1), ZERO);
        due("order(2)", x.order(2), 2);
        due("prime(4003)", x.prime(4003), 3);
        x = over(4003, 2, 4, 1);
        due("order(0)", x.order(0), NONE);
        due("order(1)", x.order(1), 2001);
        due("order(2)", x.order(2), 1);
        x = over(7, 3, 2);
        due("order(0)", x.order(0), 6);
        due("order(1)", x.order(1), 3);
        // 3 + r with r r = 3: over 7 a NUMBER whose norm is 6
        dueStep(x, 5, 0, 0, 0, 2);
        due("order(2)", x.order(2), 12);
        dueStep(x, 1, 0, 2, 0, 3);
        due("order(3)", x.order(3), orderBySearch(3, 1, 3, 7));
    }

    /** The order of a + b r with r r = d, by multiplying. */
    private static int orderBySearch(int a, int b, int d, int p) {
        int u = a, v = b, n = 1;
        while (u != 1 || v != 0) {
            int w = (u * a + v * b * d) % p;
            v = (u * b + v * a) % p;
            u = w;
            n++;
        }
        return n;
    }

    private static void corners() {
        promise = 17;
        CompassTowers x = new CompassTowers();
        // 3 - 1, 9 - 1, 81 - 1, 6561 - 1
        int[][] want = {{3, NONE}, {4, 1}, {5, 2}, {6, NONE}, {7, NONE}, {8, 1}, {9, NONE}, {10, 2}, {16, 2}, {20, 2}, {32, 3},
            {41, 3}, {64, NONE}, {80, 2}, {160, 3}, {6560, 3}, {6561, NONE}, {MOST, NONE}, {MOST - 1, NONE},
            {2, BAD}, {1, BAD}, {0, BAD}, {-3, BAD}, {LEAST, BAD}};
        for (int[] row : want) due("corners(" + row[0] + ")", x.corners(row[0]), row[1]);
        due("prime(32749)", x.prime(32749), 0);
        due("corners(32748)", x.corners(32748), 0);
        due("corners(32750)", x.corners(32750), 1);
        due("corners(32749)", x.corners(32749), NONE);
        due("corners(1072496998)", x.corners(1072496998), NONE);
        due("corners(1072497000)", x.corners(1072497000), 1);
        due("prime(17)", x.prime(17), 0);
        int[][] of17 = {{3, 1}, {4, 0}, {5, 2}, {16, 0}, {17, NONE}, {32, 1}, {64, 2}, {128, 3}, {256, NONE}};
        for (int[] row : of17) due("corners(" + row[0] + ")", x.corners(row[0]), row[1]);
    }

    private static void count() {
        promise = 18;
        CompassTowers x = over(7, 0, 1, 3);
        dueStep(x, 6, 0, 0, 0, 3);
        dueStep(x, 6, 1, 0, 0, 4);
        dueStep(x, 6, 1, 2, 0, 5);
        dueStep(x, 7, 3, 4, 0, 6);
        dueStep(x, 7, 3, 5, 0, 7);
        dueStep(x, 10, 6, 5, 0, 8);
        dueStep(x, 11, 6, 5, 0, 9);
        dueStep(x, 8, 3, 5, 0, 10);
        dueStep(x, 9, 3, 4, 5, 11);
        dueStep(x, 12, 6, 10, 0, 12);
        dueStep(x, 13, 12, 0, 0, 13);
        due("thing(12, 5)", x.thing(12, 5), 3);
        int[] want = {14, 1, 7, 9, 4, 4, 4, 2};
        for (int what = 0; what < 8; what++) due("count(" + what + ")", x.count(what), want[what]);
        int[] others = {LEAST, -1, 8, MOST};
        for (int what : others) due("count(" + what + ")", x.count(what), BAD);
        due("back()", x.back(), 13);
        due("back()", x.back(), 12);
        int[] left = {12, 0, 7, 6, 3, 3, 4, 2};
        for (int what = 0; what < 8; what++) due("count(" + what + ")", x.count(what), left[what]);
        dueStep(x, 5, 2, 0, 0, 12);
        due("count(3)", x.count(3), 8);
        dueStep(x, 5, 2, 0, 0, 13);
        due("count(3)", x.count(3), 8);
    }
}
