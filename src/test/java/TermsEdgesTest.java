import java.io.IOException;

/** The boundary cases that the document names ahead of its promises: the prime, the terms, THINGS, MADE ANEW and what follows. */
public final class TermsEdgesTest implements Names {
    public static void main(String[] args) throws IOException {
        Sentences document = new Sentences();
        terms(document);
        things(document);
        meetings(document);
        refusals(document);
        document.end();
    }

    private static void terms(Sentences document) {
        document.holds(0, "P is odd, 3 to 32749; 3 at first.", TermsEdgesTest::primeRange);
        document.holds(0, "RESIDUES are 0 .. P - 1, reckoned modulo P.", TermsEdgesTest::residuesWrap);
        document.holds(0, "RESIDUES are 0 .. P - 1, reckoned modulo P.", TermsEdgesTest::greatestCoordinates);
        document.holds(0, "THE TOWER has a HEIGHT 0 .. 3, 0 at first, and a BASE D(k) for each k below it", TermsEdgesTest::heights);
        document.holds(0, "a BASE D(k) for each k below it: a NUMBER of k that is no SQUARE at k.", TermsEdgesTest::basesAreNoSquares);
        document.holds(0, "one of k + 1 is a + b r, a and b being NUMBERS of k, and r r being D(k);", TermsEdgesTest::squaresOfNewRoots);
        document.holds(0, "One of k is one of k + 1, too, b being 0; THE LEVEL of a NUMBER is the least k of which it is one.",
            TermsEdgesTest::levelsFall);
        document.holds(0, "to divide by what is not 0.", TermsEdgesTest::divisionNearZero);
        document.holds(0, "A SQUARE at k is a NUMBER of k that is the square of one of k (0 is).", TermsEdgesTest::zeroIsSquare);
        document.holds(0, "of its square roots that with the lesser COORDINATES: the first one in which two differ is less,"
            + " from the first one on.", TermsEdgesTest::lesserRoot);
        document.holds(0, "THE ROOT of a SQUARE, at the HEIGHT:", TermsEdgesTest::rootsOfSquares);
        document.holds(0, "CONJUGATES of a NUMBER x: x, x^P, that one's P-th power, and so on, up to the one before x comes again.",
            TermsEdgesTest::conjugatesEnd);
        document.holds(0, "of those with RESIDUES, the first one 1, of which it is a root, the one of the least degree.",
            TermsEdgesTest::leastPolynomial);
        document.holds(0, "the least n above 0 with x^n = 1, if that is not above 4000.", TermsEdgesTest::ordersNear4000);
        document.holds(0, "CORNERS of a regular figure of n sides (3 and more) are at k", TermsEdgesTest::leastFigure);
        document.holds(0, "(whatever its BASES are): if n divides P^(2^k) - 1.", TermsEdgesTest::cornersAndTheTower);
    }

    private static void things(Sentences document) {
        document.holds(0, "2 THINGS, 0, 1, .. as they come, 60 at most", TermsEdgesTest::sixtyThings);
        document.holds(0, "told with b 1, or, b being 0, with a 1;", TermsEdgesTest::linesToldPlainly);
        document.holds(0, "(s may be 0)", TermsEdgesTest::spanOfZero);
        document.holds(0, "They are ONE if they are of one sort and their NUMBERS are the same.", TermsEdgesTest::oneAndTheSame);
        document.holds(0, "0 GIVEN v: the NUMBER v modulo P.", TermsEdgesTest::givenWraps);
        document.holds(0, "4 OVER a b (ZERO: b is 0).", TermsEdgesTest::overZero);
        document.holds(0, "if a is no SQUARE at the HEIGHT, THE TOWER GROWS by it: one more of HEIGHT, with a as BASE (HIGH: it is 3),"
            + " and it is r.", TermsEdgesTest::rootsGrow);
        document.holds(0, "7 LINE p q through POINTS (SAME: they are ONE).", TermsEdgesTest::lineThroughOne);
        document.holds(0, "of a, b the places change, and one of them its sign.", TermsEdgesTest::squareUp);
        document.holds(0, "11 ALONG l p: the LINE through p that goes as l.", TermsEdgesTest::along);
        document.holds(0, "of a POINT x (0), y (1); of a LINE a, b, c (0 to 2); of a CIRCLE h, k, s: a NUMBER.", TermsEdgesTest::parts);
        document.holds(0, "THE PRICE: of a STEP 7 to 11 one each; of 12, if THE TOWER GREW by it, 3; of 5, if it did, 2; of others 0.",
            TermsEdgesTest::prices);
        document.holds(0, "HEIGHT 0, and all STEPS one by one, from the first on, with the same KINDS and numbers"
            + " (a GIVEN v by v as it was told)", TermsEdgesTest::madeAnew);
        document.holds(0, "If one is refused, all stays as it was.", TermsEdgesTest::allStays);
    }

    private static void meetings(Sentences document) {
        document.holds(0, "12 MEET g h i: POINT i (0, 1) of those in which LINES, CIRCLES g, h meet.", TermsEdgesTest::pointsOfAMeeting);
        document.holds(0, "MEETING of two LINES: the POINT that is on both; none, if they go the same way (SAME: they are ONE).",
            TermsEdgesTest::linesMeet);
        document.holds(0, "with t for x (LINES with b 1), else for y", TermsEdgesTest::whichUnknown);
        document.holds(0, "A, B, C all 0: SAME.", TermsEdgesTest::allZero);
        document.holds(0, "A and B 0: none.", TermsEdgesTest::twoZero);
        document.holds(0, "A 0: one, -C / B.", TermsEdgesTest::firstZero);
        document.holds(0, "E 0: one;", TermsEdgesTest::touching);
        document.holds(0, "E a SQUARE at the HEIGHT: two, (-B - R) / (2 A) and (-B + R) / (2 A), R being THE ROOT of E, in this order;",
            TermsEdgesTest::twoPoints);
        document.holds(0, "else THE TOWER GROWS by E (HIGH: it is 3), and so likewise with R = r.", TermsEdgesTest::meetingsGrow);
        document.holds(0, "Of two CIRCLES: with one centre: SAME (ONE), or none;", TermsEdgesTest::oneCentre);
        document.holds(0, "else those of the first one and of the LINE on which both equations, one less the other, are 0.",
            TermsEdgesTest::circlesMeet);
        document.holds(0, "MISSES: there is no POINT i. (With one POINT i 1 MISSES.)", TermsEdgesTest::noSuchPoint);
    }

    private static void refusals(Sentences document) {
        document.holds(0, "A STEP that is refused makes nothing (THE TOWER does not grow).", TermsEdgesTest::refusedMakesNothing);
        document.holds(0, "BAD: a number is none that is told, there is no such THING, it is of another sort.", TermsEdgesTest::badEverywhere);
        document.holds(0, "Of several refusals the first told.", TermsEdgesTest::firstRefusal);
    }

    // ---- the prime and the terms

    private static void primeRange() {
        Run r = new Run();
        r.count(3, 2);
        int[] none = {-3, -1, 0, 1, 2, 32748, 32750, 32771};
        for (int p : none) r.prime(BAD, p);
        r.count(3, 2);
        r.prime(0, 32749);
        r.count(32749, 2);
        r.prime(0, 3);
        r.count(3, 2);
    }

    private static void residuesWrap() {
        int[] primes = {3, 5, 32749};
        for (int p : primes) {
            Run r = Run.over(p, p - 1, 1, 0);
            r.step(3, SUM, 0, 1);
            r.residues(3, 0);
            r.step(4, LESS, 2, 1);
            r.residues(4, p - 1);
            r.step(5, TIMES, 0, 0);
            r.residues(5, 1);
            r.step(6, SUM, 0, 0);
            r.residues(6, p - 2);
            r.step(7, LESS, 1, 0);
            r.residues(7, 2);
            r.step(8, OVER, 1, 0);
            r.residues(8, p - 1);
            r.step(9, LESS, 2, 2);
            r.residues(9, 0);
        }
    }

    /** Over the greatest prime, at the greatest HEIGHT: -(1 + r)(1 + s)(1 + t), and its square. */
    private static void greatestCoordinates() {
        int top = 32748;
        Run r = Run.over(32749, 2);
        for (int t = 1; t <= 3; t++) r.step(t, ROOT, t - 1);
        r.count(3, 1);
        r.step(4, GIVEN, 1);
        for (int t = 5; t <= 7; t++) r.step(t, SUM, 4, t - 4);
        r.step(8, TIMES, 5, 6);
        r.step(9, TIMES, 8, 7);
        r.row(9, 0, 1, 1, 1, 1, 1, 1, 1, 1);
        r.step(10, GIVEN, 0);
        r.step(11, LESS, 10, 9);
        r.row(11, 0, top, top, top, top, top, top, top, top);
        r.step(12, TIMES, 11, 11);
        // (3 + 2 r)(1 + r + 2 s)(1 + s + 2 t)
        r.row(12, 0, 15, 11, 13, 9, 14, 10, 12, 8);
        r.step(13, ROOT, 12);
        r.row(13, 0, 1, 1, 1, 1, 1, 1, 1, 1);
        r.step(14, OVER, 12, 11);
        r.one(1, 14, 11);
        r.step(15, SUM, 11, 9);
        r.row(15, 0);
    }

    private static void heights() {
        Run r = Run.over(5, 2);
        r.count(0, 1);
        for (int t = 1; t <= 3; t++) {
            r.step(t, ROOT, t - 1);
            r.count(t, 1);
        }
        r.step(HIGH, ROOT, 3);
        r.count(3, 1);
        new Run().count(0, 1);
    }

    private static void basesAreNoSquares() {
        Run r = Run.tall();
        for (int k = 0; k < 3; k++) {
            r.square(0, k, k);
            r.square(1, k, k + 1);
            r.thing(k, k, 7);
        }
        r.baseRow(0, 2);
        r.baseRow(1, 0, 1);
        r.baseRow(2, 0, 0, 1);
        // over 7 each RESIDUE is a SQUARE at 1, and so is r; 1 + r, whose norm is 5, is none
        r = Run.over(7, 3, 5, 6, 1);
        r.step(4, ROOT, 0);
        for (int t = 0; t < 3; t++) {
            r.step(5 + t, ROOT, t);
            r.thing(0, 5 + t, 6);
        }
        r.step(8, ROOT, 4);
        r.thing(0, 8, 6);
        r.step(9, SUM, 3, 4);
        r.step(10, ROOT, 9);
        r.thing(1, 10, 6);
        r.baseRow(0, 3);
        r.baseRow(1, 1, 1);
        r.row(10, 0, 0, 0, 1);
    }

    /** Over 7: THINGS 2, 4, 8 are r, s, t, with r r = 3, s s = 1 + r, t t = 2 + 2 r + 2 s + r s. */
    private static Run mixed() {
        Run r = Run.over(7, 3, 1);
        r.step(2, ROOT, 0);
        r.step(3, SUM, 1, 2);
        r.step(4, ROOT, 3);
        // s is no SQUARE, and so is none times one: (1 + s)(1 + s) s
        r.step(5, SUM, 1, 4);
        r.step(6, TIMES, 5, 5);
        r.step(7, TIMES, 6, 4);
        r.step(8, ROOT, 7);
        r.count(3, 1);
        return r;
    }

    private static void squaresOfNewRoots() {
        Run r = mixed();
        r.baseRow(0, 3);
        r.baseRow(1, 1, 1);
        r.baseRow(2, 2, 2, 2, 1);
        r.step(9, TIMES, 2, 8);
        r.step(10, TIMES, 4, 8);
        r.step(11, TIMES, 2, 10);
        r.row(9, 0, 0, 0, 0, 0, 0, 1);
        r.row(10, 0, 0, 0, 0, 0, 0, 0, 1);
        r.row(11, 0, 0, 0, 0, 0, 0, 0, 0, 1);
        // the squares of r, s, t, r t, s t, r s t
        int[] roots = {2, 4, 8, 9, 10, 11};
        int[][] want = {{3}, {1, 1}, {2, 2, 2, 1}, {6, 6, 6, 3}, {1, 4, 5, 3}, {3, 5, 1, 2}};
        for (int n = 0; n < 6; n++) {
            r.step(12 + n, TIMES, roots[n], roots[n]);
            r.row(12 + n, 0, want[n]);
        }
    }

    private static void levelsFall() {
        Run r = Run.tall();
        for (int t = 1; t <= 3; t++) {
            r.thing(t, t, 7);
            r.step(3 + t, TIMES, t, t);
            r.thing(t - 1, 3 + t, 7);
            r.one(1, 3 + t, t - 1);
        }
        // t + 2 less t; t over t; t less t
        r.step(7, SUM, 3, 0);
        r.thing(3, 7, 7);
        r.step(8, LESS, 7, 3);
        r.thing(0, 8, 7);
        r.row(8, 0, 2);
        r.step(9, OVER, 3, 3);
        r.thing(0, 9, 7);
        r.step(10, LESS, 3, 3);
        r.thing(0, 10, 7);
        // s + t is of 3, and r s of 2: the last COORDINATE that is not 0 tells
        r.step(11, SUM, 2, 3);
        r.thing(3, 11, 7);
        r.step(12, TIMES, 1, 2);
        r.thing(2, 12, 7);
        r.row(12, 0, 0, 0, 0, 1);
        // a NUMBER of 0 stays one as THE TOWER grows
        r = Run.over(7, 3);
        r.row(0, 0, 3);
        r.step(1, ROOT, 0);
        r.row(0, 0, 3);
        r.thing(0, 0, 7);
    }

    private static void divisionNearZero() {
        Run r = Run.tall();
        r.step(4, LESS, 3, 3);
        for (int t = 0; t < 5; t++) r.step(ZERO, OVER, t, 4);
        for (int t = 0; t < 4; t++) {
            r.step(5 + 2 * t, OVER, 4, t);
            r.row(5 + 2 * t, 0);
            r.step(6 + 2 * t, OVER, t, t);
            r.row(6 + 2 * t, 0, 1);
        }
        // 1 / r = r / 2 = 3 r; 1 / t = t r s / 2
        r.step(13, OVER, 6, 1);
        r.row(13, 0, 0, 3);
        r.step(14, OVER, 6, 3);
        r.row(14, 0, 0, 0, 0, 0, 0, 0, 0, 3);
    }

    private static void zeroIsSquare() {
        Run r = Run.over(5, 0, 2);
        r.square(1, 0, 0);
        r.step(2, ROOT, 0);
        r.thing(0, 2, 6);
        r.row(2, 0);
        for (int t = 3; t <= 5; t++) {
            r.step(t, ROOT, t == 3 ? 1 : t - 1);
            for (int k = 0; k <= t - 2; k++) r.square(1, 0, k);
        }
        r.step(6, ROOT, 0);
        r.row(6, 0);
    }

    private static void lesserRoot() {
        Run r = Run.over(7, 2, 1, 3);
        r.step(3, ROOT, 0);
        r.residues(3, 3);
        r.step(4, ROOT, 1);
        r.residues(4, 1);
        // r r = 3: 5 is the square of 2 r and of 5 r; the first COORDINATES are both 0
        r.step(5, ROOT, 2);
        r.step(6, GIVEN, 5);
        r.step(7, ROOT, 6);
        r.row(7, 0, 0, 2);
        // 2 + 6 r or 5 + r: the first COORDINATE tells, not the last
        r.step(8, SUM, 6, 5);
        r.row(8, 0, 5, 1);
        r.step(9, TIMES, 8, 8);
        r.step(10, ROOT, 9);
        r.row(10, 0, 2, 6);
        r.thing(0, 10, 6);
        // the middle of the RESIDUES
        r = Run.over(32749, 16374, 16375);
        for (int t = 0; t < 2; t++) {
            r.step(2 + 2 * t, TIMES, t, t);
            r.step(3 + 2 * t, ROOT, 2 + 2 * t);
            r.residues(3 + 2 * t, 16374);
        }
        r = Run.over(3, 1);
        r.step(1, ROOT, 0);
        r.residues(1, 1);
        // r t - 2 s t or -r t + 2 s t: the sixth COORDINATE is the first in which they differ
        r = Run.tall();
        r.step(4, TIMES, 1, 3);
        r.step(5, TIMES, 2, 3);
        r.step(6, TIMES, 0, 5);
        r.step(7, LESS, 6, 4);
        r.row(7, 0, 0, 0, 0, 0, 0, 4, 2);
        r.step(8, TIMES, 7, 7);
        r.step(9, ROOT, 8);
        r.row(9, 0, 0, 0, 0, 0, 0, 1, 3);
    }

    /** Squares a NUMBER; THE ROOT of that must be the NUMBER or its negative, whichever has the lesser COORDINATES. */
    private static void rootOfSquare(Run r, int things, int y, int p) {
        int[] want = r.coordinates(y);
        int first = 0;
        while (first < 7 && want[first] == 0) first++;
        if (2 * want[first] > p) for (int j = 0; j < 8; j++) want[j] = (p - want[j]) % p;
        r.step(things, TIMES, y, y);
        r.step(things + 1, ROOT, things);
        r.thing(0, things + 1, 6);
        r.row(things + 1, 0, want);
    }

    private static void rootsOfSquares() {
        // P - 1 with one factor 2 and with many, up to twelve
        int[] primes = {3, 5, 7, 17, 41, 97, 193, 257, 7681, 12289, 32719, 32749};
        for (int p : primes) {
            Run r = Run.over(p, 0, 1, 2, 3, 5, p / 2, p / 2 + 1, p - 2);
            for (int t = 0; t < 8; t++) rootOfSquare(r, 8 + 2 * t, t, p);
        }
        // of each LEVEL, at the greatest HEIGHT: 3, r, 1 + r, s, 1 + s, t, r t, s t, r s t, 2 r s t, 3 r s t, and sums of these
        Run r = mixed();
        r.step(9, TIMES, 2, 8);
        r.step(10, TIMES, 4, 8);
        r.step(11, TIMES, 2, 10);
        r.step(12, SUM, 11, 11);
        r.step(13, LESS, 8, 3);
        r.step(14, LESS, 13, 4);
        r.step(15, SUM, 14, 10);
        r.step(16, TIMES, 15, 13);
        r.step(17, SUM, 11, 12);
        int[] numbers = {0, 2, 3, 4, 5, 8, 9, 10, 11, 12, 13, 14, 15, 16, 17};
        for (int n = 0; n < numbers.length; n++) rootOfSquare(r, 18 + 2 * n, numbers[n], 7);
        // at HEIGHT 2
        r = mixed();
        r.back(8);
        int[] lower = {0, 1, 2, 3, 4, 5, 6, 7};
        for (int n = 0; n < lower.length; n++) rootOfSquare(r, 8 + 2 * n, lower[n], 7);
    }

    private static void conjugatesEnd() {
        Run r = Run.tall();
        for (int t = 0; t < 4; t++) {
            int many = 1 << t;
            for (int j = 0; j < 8; j++) r.conjugate(t == 0 && j == 0 ? 2 : t > 0 && j == 1 << t - 1 ? 1 : 0, t, 0, j);
            r.conjugate(NONE, t, many, 0);
            r.conjugate(NONE, t, many, 7);
        }
        r.conjugate(4, 1, 1, 1);
        // s^5 = 2 s, s^25 = 4 s, s^125 = 3 s, and s again
        int[] ofS = {1, 2, 4, 3};
        for (int i = 0; i < 4; i++) r.conjugate(ofS[i], 2, i, 2);
        // t^5 = r t, t^25 = r^5 r t = -2 t, t^125 = -2 r t, t^625 = 4 t and so on
        int[][] ofT = {{1, 0}, {0, 1}, {3, 0}, {0, 3}, {4, 0}, {0, 4}, {2, 0}, {0, 2}};
        for (int i = 0; i < 8; i++) {
            r.conjugate(ofT[i][0], 3, i, 4);
            r.conjugate(ofT[i][1], 3, i, 5);
        }
        r.step(4, GIVEN, 0);
        r.conjugate(0, 4, 0, 0);
        r.conjugate(NONE, 4, 1, 0);
    }

    private static void leastPolynomial() {
        Run r = Run.tall();
        // t - 2, t^2 - 2, t^4 - 2, t^8 - 2
        for (int t = 0; t < 4; t++) {
            int degree = 1 << t;
            r.degree(degree, t);
            r.coefficient(3, t, 0);
            for (int i = 1; i < degree; i++) r.coefficient(0, t, i);
            r.coefficient(1, t, degree);
        }
        // of 0 it is t; of s s, which is r again, that of r
        r.step(4, GIVEN, 0);
        r.degree(1, 4);
        r.coefficient(0, 4, 0);
        r.coefficient(1, 4, 1);
        r.step(5, TIMES, 2, 2);
        r.degree(2, 5);
        r.coefficient(3, 5, 0);
        r.coefficient(0, 5, 1);
        r.coefficient(1, 5, 2);
        // (t - 1)^8 - 2, (t - 1)^4 - 2, (t - 1)^2 - 2 and t - 2, the highest one first
        r.step(6, GIVEN, 1);
        for (int t = 1; t <= 3; t++) r.step(6 + t, SUM, 6, t);
        int[][] want = {{4, 2, 3, 4, 0, 4, 3, 2, 1}, {4, 1, 1, 1, 1}, {4, 3, 1}};
        for (int n = 0; n < 3; n++) {
            for (int i = 0; i < want[n].length; i++) r.coefficient(want[n][i], 9 - n, i);
        }
        r.coefficient(3, 0, 0);
        r.coefficient(1, 0, 1);
    }

    private static void ordersNear4000() {
        // 3 is a primitive root of 4001; 64 has the order 4001 over 24007; 2 is a primitive root of 4003
        Run r = Run.over(4001, 3, 1, -1);
        r.order(4000, 0);
        r.order(1, 1);
        r.order(2, 2);
        Run.over(24007, 64).order(NONE, 0);
        Run.over(4003, 2).order(NONE, 0);
        // over 3: r r = -1, s s = 1 + r, t t = s, whose orders are 4, 16, 32
        r = Run.over(3, 2, 1);
        r.step(2, ROOT, 0);
        r.step(3, SUM, 1, 2);
        r.step(4, ROOT, 3);
        r.step(5, ROOT, 4);
        r.count(3, 1);
        r.order(2, 0);
        r.order(4, 2);
        r.order(8, 3);
        r.order(16, 4);
        r.order(32, 5);
    }

    private static void leastFigure() {
        Run r = Run.over(7);
        r.corners(0, 3);
        r.corners(BAD, 2);
        r.corners(BAD, 1);
        r.corners(BAD, 0);
        r.corners(BAD, -3);
    }

    private static void cornersAndTheTower() {
        // 5 - 1 = 4, 24, 624, 390624
        int[][] want = {{3, 1}, {4, 0}, {5, NONE}, {13, 2}, {24, 1}, {313, 3}, {624, 2}, {390624, 3}, {390625, NONE}, {781248, NONE}};
        Run low = Run.over(5);
        Run high = Run.tall();
        for (int[] row : want) {
            low.corners(row[1], row[0]);
            high.corners(row[1], row[0]);
        }
    }

    // ---- THINGS and their STEPS

    private static void sixtyThings() {
        Run r = new Run();
        r.fillTo(60);
        r.count(60, 0);
        r.thing(0, 59, 0);
        r.thing(BAD, 60, 0);
        r.step(FULL, GIVEN, 0);
        r.count(60, 0);
        r.back(59);
        r.step(59, GIVEN, 4);
        r.residues(59, 1);
        r.residues(58, 0);
        r.step(FULL, GIVEN, 0);
    }

    /** Over 13: 0, 1, 2, 5 and the POINTS (0, 0), (2, 0), (0, 5), (2, 5), (2, 1). */
    private static Run points() {
        Run r = Run.over(13, 0, 1, 2, 5);
        r.step(4, POINT, 0, 0);
        r.step(5, POINT, 2, 0);
        r.step(6, POINT, 0, 3);
        r.step(7, POINT, 2, 3);
        r.step(8, POINT, 2, 1);
        return r;
    }

    private static void linesToldPlainly() {
        Run r = points();
        // x = 0; x = 2, in three ways; y = 0; y = 5; 5 x + 2 y = 10
        r.step(9, LINE, 4, 6);
        r.residues(9, 1, 0, 0);
        int[][] upright = {{5, 7}, {7, 5}, {8, 5}};
        for (int n = 0; n < 3; n++) {
            r.step(10 + n, LINE, upright[n]);
            r.residues(10 + n, 1, 0, 11);
        }
        r.step(13, LINE, 4, 5);
        r.residues(13, 0, 1, 0);
        r.step(14, LINE, 7, 6);
        r.residues(14, 0, 1, 8);
        r.step(15, LINE, 5, 6);
        r.residues(15, 9, 1, 8);
        r.step(16, LINE, 6, 5);
        r.one(1, 15, 16);
        // with NUMBERS of 1: through (0, 0) and (r, 0), (r, 1), (0, r), over 13 with r r = 2
        r.step(17, ROOT, 2);
        r.step(18, POINT, 17, 0);
        r.step(19, LINE, 4, 18);
        r.residues(19, 0, 1, 0);
        r.step(20, POINT, 0, 17);
        r.step(21, LINE, 20, 4);
        r.residues(21, 1, 0, 0);
        // y = x / r = 7 r x
        r.step(22, POINT, 17, 1);
        r.step(23, LINE, 4, 22);
        r.row(23, 0, 0, 6);
        r.row(23, 1, 1);
        r.row(23, 2);
    }

    private static void spanOfZero() {
        Run r = points();
        r.step(9, CIRCLE, 7, 7);
        r.residues(9, 2, 5, 0);
        r.on(1, 7, 9);
        r.on(0, 8, 9);
        r.step(10, AROUND, 7, 4, 4);
        r.one(1, 9, 10);
        // y = 5 meets it in its centre alone
        r.step(11, LINE, 6, 7);
        r.step(12, MEET, 11, 9, 0);
        r.one(1, 12, 7);
        r.step(MISSES, MEET, 11, 9, 1);
        // over 5 (1, 2) lies 1 + 4 = 0 from (0, 0) and is another POINT
        r = Run.over(5, 0, 1, 2);
        r.step(3, POINT, 0, 0);
        r.step(4, POINT, 1, 2);
        r.step(5, CIRCLE, 3, 4);
        r.residues(5, 0, 0, 0);
        r.on(1, 4, 5);
        r.on(1, 3, 5);
    }

    private static void oneAndTheSame() {
        Run r = points();
        // the LINE x = 0 and the CIRCLE round (1, 0) with span 0 have the same NUMBERS, and so have POINTS and what begins as they do
        r.step(9, LINE, 4, 6);
        r.residues(9, 1, 0, 0);
        r.step(10, POINT, 1, 0);
        r.step(11, CIRCLE, 10, 10);
        r.residues(11, 1, 0, 0);
        r.one(0, 9, 11);
        r.one(0, 10, 9);
        r.one(0, 10, 11);
        r.one(0, 1, 10);
        // the first, the second, the third NUMBER alone differs
        r.one(0, 4, 5);
        r.one(0, 4, 6);
        r.step(12, CIRCLE, 10, 4);
        r.one(0, 11, 12);
        r.step(13, GIVEN, 14);
        r.one(1, 1, 13);
        r.one(1, 13, 1);
        r.one(1, 13, 13);
        // the last COORDINATE alone differs: t r s less that
        r = Run.tall();
        r.step(4, TIMES, 1, 2);
        r.step(5, TIMES, 4, 3);
        r.step(6, SUM, 5, 5);
        r.one(0, 5, 6);
        r.step(7, LESS, 6, 5);
        r.one(1, 5, 7);
        r.step(8, LESS, 5, 7);
        r.one(0, 5, 8);
    }

    private static void givenWraps() {
        int[] primes = {3, 32749};
        for (int p : primes) {
            int[] told = {0, 1, -1, p - 1, p, p + 1, 1 - p, -p, -1 - p, 2 * p - 1, MOST, LEAST, LEAST + 1};
            Run r = Run.over(p, told);
            for (int t = 0; t < told.length; t++) {
                r.residues(t, (int) (((long) told[t] % p + p) % p));
                r.thing(told[t], t, 2);
            }
        }
    }

    private static void overZero() {
        Run r = Run.over(7, 3, 0, 7, -7);
        for (int b = 1; b < 4; b++) {
            r.step(ZERO, OVER, 0, b);
            r.step(ZERO, OVER, 1, b);
        }
        r.count(4, 0);
        r.step(4, OVER, 1, 0);
        r.residues(4, 0);
        r.step(5, ROOT, 0);
        r.step(6, LESS, 5, 5);
        r.step(ZERO, OVER, 5, 6);
        // r has 0 ahead and is not 0
        r.step(7, OVER, 5, 5);
        r.row(7, 0, 1);
    }

    private static void rootsGrow() {
        Run r = Run.over(5, 4, 2, 3);
        r.step(3, ROOT, 0);
        r.residues(3, 2);
        r.count(0, 1);
        r.step(4, ROOT, 1);
        r.count(1, 1);
        r.baseRow(0, 2);
        r.row(4, 0, 0, 1);
        // 3 is no SQUARE at 0, and one at the HEIGHT: (2 r)(2 r) = 8
        r.square(0, 2, 0);
        r.step(5, ROOT, 2);
        r.thing(0, 5, 6);
        r.row(5, 0, 0, 2);
        r.step(6, ROOT, 4);
        r.row(6, 0, 0, 0, 1);
        r.step(7, ROOT, 6);
        r.row(7, 0, 0, 0, 0, 0, 1);
        r.count(3, 1);
        r.step(HIGH, ROOT, 7);
        r.count(3, 1);
        r.count(8, 0);
        // SQUARES have their ROOT there, all the same
        r.step(8, ROOT, 6);
        r.one(1, 8, 7);
        r.step(9, ROOT, 1);
        r.one(1, 9, 4);
        r.back(9);
        r.back(8);
        r.back(7);
        r.step(7, ROOT, 6);
        r.thing(1, 7, 6);
    }

    private static void lineThroughOne() {
        Run r = points();
        r.step(SAME, LINE, 7, 7);
        r.step(9, POINT, 2, 3);
        r.step(SAME, LINE, 7, 9);
        r.step(SAME, LINE, 9, 7);
        // (13, 0) is (0, 0)
        r.step(10, GIVEN, 13);
        r.step(11, POINT, 10, 0);
        r.step(SAME, LINE, 4, 11);
        // one of x, y alone being the same will do
        r.step(12, LINE, 7, 5);
        r.step(13, LINE, 7, 6);
        // POINTS that came where other THINGS were taken back
        r.back(13);
        r.back(12);
        r.step(12, CIRCLE, 7, 4);
        r.step(13, CIRCLE, 7, 5);
        r.back(13);
        r.back(12);
        r.step(12, POINT, 3, 3);
        r.step(13, POINT, 3, 3);
        r.one(1, 12, 13);
        r.step(SAME, LINE, 12, 13);
        // over 5 (0, 0) and (1, 2) are two, though no span lies between
        r = Run.over(5, 0, 1, 2);
        r.step(3, POINT, 0, 0);
        r.step(4, POINT, 1, 2);
        r.step(5, LINE, 3, 4);
        r.residues(5, 3, 1, 0);
    }

    private static void squareUp() {
        Run r = points();
        r.step(9, LINE, 4, 6);
        r.step(10, LINE, 4, 5);
        // to x = 0 through (2, 5): y = 5; to y = 0: x = 2
        r.step(11, SQUARE_UP, 9, 7);
        r.residues(11, 0, 1, 8);
        r.step(12, SQUARE_UP, 10, 7);
        r.residues(12, 1, 0, 11);
        // y = x / 2 through (0, 0) and (2, 1): square to it y = -2 x, and square to that the first again
        r.step(13, LINE, 4, 8);
        r.residues(13, 6, 1, 0);
        r.step(14, SQUARE_UP, 13, 4);
        r.residues(14, 2, 1, 0);
        r.step(15, SQUARE_UP, 14, 8);
        r.one(1, 15, 13);
        r.way(2, 13, 14);
        // over 5 y = 2 x is square to itself
        r = Run.over(5, 0, 1, 2);
        r.step(3, POINT, 0, 0);
        r.step(4, POINT, 1, 2);
        r.step(5, LINE, 3, 4);
        r.step(6, SQUARE_UP, 5, 3);
        r.one(1, 5, 6);
    }

    private static void along() {
        Run r = points();
        r.step(9, LINE, 4, 6);
        r.step(10, ALONG, 9, 4);
        r.one(1, 9, 10);
        r.step(11, ALONG, 9, 7);
        r.residues(11, 1, 0, 11);
        r.step(12, LINE, 4, 8);
        r.step(13, ALONG, 12, 8);
        r.one(1, 12, 13);
        r.step(14, ALONG, 12, 6);
        r.residues(14, 6, 1, 8);
        r.way(1, 12, 14);
    }

    private static void parts() {
        Run r = points();
        r.step(9, LINE, 5, 6);
        r.step(10, CIRCLE, 7, 8);
        int[][] want = {{7, 2, 5}, {9, 9, 1, 8}, {10, 2, 5, 3}};
        int t = 11;
        for (int[] row : want) {
            for (int i = 0; i + 1 < row.length; i++) {
                r.step(t, PART, row[0], i);
                r.residues(t, row[i + 1]);
                r.thing(0, t, 0);
                t++;
            }
            int[] none = {LEAST, -1, row.length - 1, MOST};
            for (int i : none) r.step(BAD, PART, row[0], i);
        }
        // a NUMBER has no parts
        r.step(BAD, PART, 0, 0);
        r.count(t, 0);
    }

    private static void prices() {
        // over 7: (0, 0), (1, 0), (1, 3), y = 0, the CIRCLE round (0, 0) of span 3, and so on
        Run r = Run.over(7, 0, 1, 3);
        r.step(3, POINT, 0, 0);
        r.step(4, POINT, 1, 0);
        r.step(5, POINT, 1, 2);
        r.step(6, LINE, 3, 4);
        r.step(7, CIRCLE, 3, 5);
        r.step(8, AROUND, 3, 3, 4);
        r.step(9, SQUARE_UP, 6, 5);
        r.step(10, ALONG, 6, 5);
        r.step(11, MEET, 6, 9, 0);
        r.step(12, MEET, 6, 8, 0);
        r.step(13, MEET, 6, 7, 0);
        r.step(14, MEET, 6, 7, 1);
        r.step(15, ROOT, 2);
        r.step(16, PART, 13, 0);
        r.step(17, SUM, 16, 1);
        r.square(0, 17, 1);
        r.step(18, ROOT, 17);
        r.step(19, ROOT, 17);
        int[] want = {0, 0, 0, 0, 0, 0, 1, 1, 1, 1, 1, 0, 0, 3, 0, 0, 0, 0, 2, 0};
        for (int t = 0; t < want.length; t++) {
            r.thing(want[t], t, 5);
            r.thing(want[t] > 1 ? 1 : 0, t, 6);
        }
        r.count(10, 3);
        r.step(20, LESS, 0, 1);
        r.step(21, TIMES, 0, 1);
        r.step(22, OVER, 0, 1);
        r.count(10, 3);
    }

    // ---- MADE ANEW

    private static void madeAnew() {
        // 12 is 2 over 5, 5 over 7, 1 over 11, and 0 over 3; its ROOT grows over 5 and over 7 alone
        Run r = Run.over(5, 12, -1);
        r.step(2, ROOT, 0);
        r.step(3, ROOT, 2);
        r.count(2, 1);
        r.baseRow(0, 2);
        r.prime(4, 7);
        r.residues(0, 5);
        r.residues(1, 6);
        // over 7 r, whose norm is -5, is a SQUARE at 1
        r.count(1, 1);
        r.baseRow(0, 5);
        r.base(BAD, 1, 0);
        r.thing(0, 3, 6);
        r.prime(4, 11);
        r.count(0, 1);
        r.residues(2, 1);
        r.residues(3, 1);
        r.prime(4, 3);
        r.residues(0, 0);
        r.residues(1, 2);
        r.residues(3, 0);
        r.prime(4, 5);
        r.count(2, 1);
        r.baseRow(0, 2);
        r.baseRow(1, 0, 1);
        r.row(3, 0, 0, 0, 1);
        r.thing(12, 0, 2);
        r.thing(-1, 1, 2);
        // the same prime again changes nothing
        Run other = Run.over(5, 12, -1);
        other.step(2, ROOT, 0);
        other.step(3, ROOT, 2);
        other.prime(4, 5);
        other.sameAs(r);
        // what was taken back is not made again
        r.back(3);
        r.prime(3, 7);
        r.prime(3, 5);
        r.count(1, 1);
    }

    /** Over 7, of HEIGHT 1: a ROOT, a LINE, and at last 1 / 5, which no STEP can make over 5. */
    private static Run fragile() {
        Run r = Run.over(7, 3, 5, 1);
        r.step(3, ROOT, 0);
        r.step(4, POINT, 3, 1);
        r.step(5, POINT, 0, 0);
        r.step(6, LINE, 4, 5);
        r.step(7, OVER, 2, 1);
        return r;
    }

    private static void allStays() {
        Run r = fragile();
        Run other = fragile();
        r.prime(-27, 5);
        r.count(7, 2);
        // over 5 THE TOWER would have grown by 3, too
        r.count(1, 1);
        r.why(ZERO);
        other.prime(-27, 5);
        other.prime(8, 7);
        r.sameAs(other);
        // and all goes on from there
        r.step(8, SUM, 3, 7);
        r.row(8, 0, 3, 1);
        r.step(9, TIMES, 3, 3);
        r.row(9, 0, 3);
        for (int t = 9; t >= 3; t--) r.back(t);
        r.count(0, 1);
        // where THE TOWER is of another HEIGHT there: 2 has a ROOT over 7 and grows over 5, with 3 and 11 it is the other way
        r = Run.over(7, 2, 5);
        r.step(2, ROOT, 0);
        r.step(3, OVER, 0, 1);
        r.prime(-23, 5);
        r.count(0, 1);
        r.base(BAD, 0, 0);
        r.residues(2, 3);
        r.thing(0, 2, 6);
        r = Run.over(7, 3, 11);
        r.step(2, ROOT, 0);
        r.step(3, OVER, 0, 1);
        r.prime(-23, 11);
        r.count(1, 1);
        r.baseRow(0, 3);
        r.row(2, 0, 0, 1);
        r.thing(1, 2, 6);
        r.count(2, 3);
    }

    // ---- MEETING

    private static void pointsOfAMeeting() {
        Run r = points();
        r.step(9, LINE, 4, 8);
        r.step(10, LINE, 5, 7);
        r.step(11, CIRCLE, 4, 8);
        int[] none = {LEAST, -1, 2, 3, MOST};
        for (int i : none) {
            r.step(BAD, MEET, 9, 10, i);
            r.step(BAD, MEET, 9, 11, i);
            r.step(BAD, MEET, 11, 11, i);
            r.step(BAD, MEET, 9, 9, i);
        }
        // y = x / 2 and the CIRCLE round (0, 0) through (2, 1)
        r.step(12, MEET, 9, 11, 0);
        r.residues(12, 11, 12);
        r.step(13, MEET, 9, 11, 1);
        r.residues(13, 2, 1);
        // NUMBERS and POINTS do not meet
        r.step(BAD, MEET, 0, 9, 0);
        r.step(BAD, MEET, 9, 0, 0);
        r.step(BAD, MEET, 4, 9, 0);
        r.step(BAD, MEET, 9, 4, 0);
    }

    private static void linesMeet() {
        Run r = points();
        // x = 0, x = 2, y = 0, y = 5, y = x / 2, and y = x / 2 + 5
        r.step(9, LINE, 4, 6);
        r.step(10, LINE, 5, 7);
        r.step(11, LINE, 4, 5);
        r.step(12, LINE, 6, 7);
        r.step(13, LINE, 4, 8);
        r.step(14, ALONG, 13, 6);
        int[][] apart = {{9, 10}, {11, 12}, {13, 14}};
        for (int[] pair : apart) {
            for (int i = 0; i < 2; i++) {
                r.step(MISSES, MEET, pair[0], pair[1], i);
                r.step(MISSES, MEET, pair[1], pair[0], i);
                r.step(SAME, MEET, pair[0], pair[0], i);
            }
        }
        r.step(15, LINE, 8, 4);
        for (int i = 0; i < 2; i++) r.step(SAME, MEET, 13, 15, i);
        int[][] meet = {{9, 11, 0, 0}, {9, 12, 0, 5}, {10, 11, 2, 0}, {10, 13, 2, 1}, {9, 14, 0, 5}, {12, 14, 0, 5}, {12, 13, 10, 5}};
        int t = 16;
        for (int[] row : meet) {
            r.step(t, MEET, row[0], row[1], 0);
            r.residues(t, row[2], row[3]);
            r.step(t + 1, MEET, row[1], row[0], 0);
            r.one(1, t, t + 1);
            r.step(MISSES, MEET, row[0], row[1], 1);
            t += 2;
        }
        // x = 2 and y = -x, both with a 1
        r.step(30, GIVEN, -2);
        r.step(31, POINT, 2, 30);
        r.step(32, LINE, 4, 31);
        r.residues(32, 1, 1, 0);
        r.step(33, MEET, 32, 10, 0);
        r.one(1, 33, 31);
    }

    /** Over 13: the CIRCLE round (0, 0) of span 2 (THING 6), y = -x (7), x = 1 (8), and y = 1 (9). */
    private static Run crossed() {
        Run r = Run.over(13, 0, 1, -1);
        r.step(3, POINT, 0, 0);
        r.step(4, POINT, 1, 2);
        r.step(5, POINT, 1, 1);
        r.step(6, CIRCLE, 3, 5);
        r.step(7, LINE, 3, 4);
        r.step(8, LINE, 4, 5);
        r.step(9, SQUARE_UP, 8, 5);
        r.residues(9, 0, 1, 12);
        return r;
    }

    private static void whichUnknown() {
        Run r = crossed();
        // on y = -x the first POINT is that of the first x, on x = 1 that of the first y
        r.step(10, MEET, 7, 6, 0);
        r.residues(10, 12, 1);
        r.step(11, MEET, 7, 6, 1);
        r.residues(11, 1, 12);
        r.step(12, MEET, 6, 8, 0);
        r.residues(12, 1, 12);
        r.step(13, MEET, 8, 6, 1);
        r.residues(13, 1, 1);
        r.step(14, MEET, 9, 6, 0);
        r.residues(14, 12, 1);
        // a centre (0, 1): on x = 1 A 1, B -2, C 1 + 1 - 5, E 16 = 3, R 4; on y = 1 B 0, C -5, E 20 = 7, which is no SQUARE
        r.step(15, POINT, 0, 1);
        r.step(16, CIRCLE, 15, 4);
        r.step(17, MEET, 16, 8, 0);
        r.residues(17, 1, 12);
        r.step(18, MEET, 16, 8, 1);
        r.residues(18, 1, 3);
        r.step(19, MEET, 16, 9, 0);
        r.baseRow(0, 7);
        r.row(19, 0, 0, 6);
        r.row(19, 1, 1);
    }

    /** Over 5: 0, 1, 2, the POINTS (0, 0), (1, 2), (1, 0), and y = 2 x (THING 6), where A is 0. */
    private static Run leaning() {
        Run r = Run.over(5, 0, 1, 2);
        r.step(3, POINT, 0, 0);
        r.step(4, POINT, 1, 2);
        r.step(5, POINT, 1, 0);
        r.step(6, LINE, 3, 4);
        return r;
    }

    private static void allZero() {
        Run r = leaning();
        r.step(7, CIRCLE, 3, 4);
        r.step(8, CIRCLE, 4, 4);
        for (int i = 0; i < 2; i++) {
            r.step(SAME, MEET, 6, 7, i);
            r.step(SAME, MEET, 8, 6, i);
            // both equations are 0 on that LINE, too
            r.step(SAME, MEET, 7, 8, i);
        }
        r.count(9, 0);
    }

    private static void twoZero() {
        Run r = leaning();
        r.step(7, CIRCLE, 3, 5);
        r.step(8, AROUND, 4, 3, 5);
        for (int i = 0; i < 2; i++) {
            r.step(MISSES, MEET, 6, 7, i);
            r.step(MISSES, MEET, 8, 6, i);
            r.step(MISSES, MEET, 7, 8, i);
        }
        r.count(0, 1);
    }

    private static void firstZero() {
        Run r = leaning();
        // B -2, C 1 - s with s 0, then 1
        r.step(7, CIRCLE, 5, 5);
        r.step(8, MEET, 6, 7, 0);
        r.residues(8, 3, 1);
        r.step(MISSES, MEET, 6, 7, 1);
        r.step(9, CIRCLE, 5, 3);
        r.step(10, MEET, 9, 6, 0);
        r.residues(10, 0, 0);
        r.step(MISSES, MEET, 9, 6, 1);
        r.thing(0, 10, 6);
        // of two CIRCLES: round (0, 0) of span 0, and round (1, 2) of span 1
        r.step(11, CIRCLE, 3, 3);
        r.step(12, AROUND, 4, 3, 5);
        r.step(13, MEET, 11, 12, 0);
        r.on(1, 13, 11);
        r.on(1, 13, 12);
        r.step(MISSES, MEET, 11, 12, 1);
    }

    private static void touching() {
        Run r = crossed();
        // square to y = x in (1, 1): x + y = 2
        r.step(10, LINE, 3, 5);
        r.step(11, SQUARE_UP, 10, 5);
        r.step(12, MEET, 11, 6, 0);
        r.one(1, 12, 5);
        r.step(MISSES, MEET, 11, 6, 1);
        r.thing(0, 12, 6);
        r.count(0, 1);
        // x = 1 and y = 1 touch the CIRCLE round (0, 0) of span 1
        r.step(13, POINT, 1, 0);
        r.step(14, CIRCLE, 3, 13);
        r.step(15, MEET, 14, 8, 0);
        r.residues(15, 1, 0);
        r.step(MISSES, MEET, 14, 8, 1);
        r.step(16, MEET, 14, 9, 0);
        r.residues(16, 0, 1);
        // two CIRCLES that touch: round (0, 0) of span 1 and round (2, 0) through (1, 0)
        r.step(17, SUM, 1, 1);
        r.step(18, POINT, 17, 0);
        r.step(19, CIRCLE, 18, 13);
        r.step(20, MEET, 14, 19, 0);
        r.one(1, 20, 13);
        r.step(MISSES, MEET, 14, 19, 1);
        // at the greatest HEIGHT E 0 needs no root, either
        Run high = Run.tall();
        high.step(4, GIVEN, 0);
        high.step(5, POINT, 4, 4);
        high.step(6, POINT, 3, 4);
        high.step(7, CIRCLE, 5, 6);
        high.step(8, LINE, 5, 6);
        high.step(9, SQUARE_UP, 8, 6);
        high.step(10, MEET, 9, 7, 0);
        high.one(1, 10, 6);
        high.step(MISSES, MEET, 9, 7, 1);
    }

    private static void twoPoints() {
        // over 7 on y = 0: the CIRCLE round (1, 0) of span 2: A 1, B -2, C -1, E 8 = 1, R 1: 1 / 2 and 3 / 2
        Run r = Run.over(7, 0, 1, 2);
        r.step(3, POINT, 0, 0);
        r.step(4, POINT, 1, 0);
        r.step(5, POINT, 2, 1);
        r.step(6, CIRCLE, 4, 5);
        r.residues(6, 1, 0, 2);
        r.step(7, LINE, 3, 4);
        r.step(8, MEET, 7, 6, 0);
        r.residues(8, 4, 0);
        r.step(9, MEET, 7, 6, 1);
        r.residues(9, 5, 0);
        // over 13 with A 2: y = x and the CIRCLE round (0, 0) of span 2: E 16 = 3, R 4
        r = crossed();
        r.step(10, LINE, 3, 5);
        r.step(11, MEET, 10, 6, 0);
        r.residues(11, 12, 12);
        r.step(12, MEET, 10, 6, 1);
        r.residues(12, 1, 1);
        r.count(0, 1);
        // over 7, E 5: none at 0, but a SQUARE at the HEIGHT, 2 r with r r = 3 being THE ROOT
        r = Run.over(7, 0, 1, 3);
        r.step(3, ROOT, 2);
        r.step(4, POINT, 0, 0);
        r.step(5, POINT, 1, 2);
        r.step(6, POINT, 1, 0);
        r.step(7, CIRCLE, 4, 5);
        r.step(8, LINE, 4, 6);
        r.step(9, MEET, 8, 7, 0);
        r.row(9, 0, 0, 6);
        r.step(10, MEET, 8, 7, 1);
        r.row(10, 0, 0, 1);
        r.thing(0, 9, 6);
        r.count(1, 1);
    }

    /** Over 5 at HEIGHT 3: the POINTS (0, 0), (2, 0), and (3 + 3 t, 4 + t), whose span from (0, 0) is t; y = 0 (THING 12). */
    private static Run tallCircle() {
        Run r = Run.tall();
        r.step(4, GIVEN, 0);
        r.step(5, GIVEN, 3);
        r.step(6, TIMES, 5, 3);
        r.step(7, SUM, 6, 5);
        r.step(8, GIVEN, 4);
        r.step(9, SUM, 8, 3);
        r.step(10, POINT, 4, 4);
        r.step(11, POINT, 0, 4);
        r.step(12, LINE, 10, 11);
        r.step(13, POINT, 7, 9);
        r.step(14, CIRCLE, 10, 13);
        r.row(14, 2, 0, 0, 0, 0, 1);
        return r;
    }

    private static void meetingsGrow() {
        // over 7, E 12 = 5: whichever POINT is asked for first, -r / 2 is the first, and r / 2 the second
        for (int first = 0; first < 2; first++) {
            Run r = Run.over(7, 0, 1, 3);
            r.step(3, POINT, 0, 0);
            r.step(4, POINT, 1, 2);
            r.step(5, POINT, 1, 0);
            r.step(6, CIRCLE, 3, 4);
            r.step(7, LINE, 3, 5);
            r.step(8, MEET, 7, 6, first);
            r.count(1, 1);
            r.baseRow(0, 5);
            r.thing(1, 8, 6);
            r.row(8, 0, 0, first == 0 ? 3 : 4);
            r.row(8, 1);
            r.step(9, MEET, 7, 6, 1 - first);
            r.thing(0, 9, 6);
            r.row(9, 0, 0, first == 0 ? 4 : 3);
        }
        Run r = tallCircle();
        r.step(HIGH, MEET, 12, 14, 0);
        r.step(HIGH, MEET, 14, 12, 1);
        r.count(3, 1);
        // two CIRCLES: (3 t, 3 + t) lies 4 + t from (0, 0), and round (0, 2) that is a span with which they meet on y = 0
        r.step(15, POINT, 4, 0);
        r.step(16, SUM, 5, 3);
        r.step(17, POINT, 6, 16);
        r.step(18, AROUND, 15, 10, 17);
        r.row(18, 2, 4, 0, 0, 0, 1);
        r.step(HIGH, MEET, 14, 18, 0);
        r.step(HIGH, MEET, 18, 14, 1);
        // a SQUARE is not too high: the CIRCLE round (0, 0) through (t, 0)
        r = tallCircle();
        r.step(15, POINT, 3, 4);
        r.step(16, CIRCLE, 10, 15);
        r.step(17, MEET, 12, 16, 1);
        r.one(1, 17, 15);
        r.thing(0, 17, 6);
    }

    private static void oneCentre() {
        Run r = crossed();
        r.step(10, POINT, 1, 0);
        r.step(11, CIRCLE, 3, 10);
        r.step(12, AROUND, 3, 3, 5);
        r.step(13, CIRCLE, 3, 3);
        for (int i = 0; i < 2; i++) {
            r.step(SAME, MEET, 6, 6, i);
            r.step(SAME, MEET, 6, 12, i);
            r.step(MISSES, MEET, 6, 11, i);
            r.step(MISSES, MEET, 11, 13, i);
            r.step(SAME, MEET, 13, 13, i);
        }
        // one of h, k alone being the same will do: round (2, 0) of span 2, and round (0, 2)
        r.step(14, SUM, 1, 1);
        r.step(15, POINT, 14, 0);
        r.step(16, CIRCLE, 15, 5);
        r.step(17, MEET, 6, 16, 0);
        r.residues(17, 1, 12);
        r.step(18, POINT, 0, 14);
        r.step(19, CIRCLE, 18, 5);
        r.step(20, MEET, 6, 19, 0);
        r.residues(20, 12, 1);
    }

    private static void circlesMeet() {
        // over 7: round (0, 0) and round (1, 1), both of span 1, meet on x + y = 1
        Run r = Run.over(7, 0, 1);
        r.step(2, POINT, 0, 0);
        r.step(3, POINT, 1, 0);
        r.step(4, POINT, 1, 1);
        r.step(5, CIRCLE, 2, 3);
        r.step(6, CIRCLE, 4, 3);
        r.step(7, MEET, 5, 6, 0);
        r.residues(7, 0, 1);
        r.step(8, MEET, 5, 6, 1);
        r.residues(8, 1, 0);
        r.step(9, MEET, 6, 5, 0);
        r.one(1, 9, 7);
        // round (0, 0) and round (1, 0), both of span 1, on x = 1 / 2 = 4: y y = 1 - 2 = 6, THE TOWER GROWS by 24 = 3
        r.step(10, CIRCLE, 3, 2);
        r.step(11, MEET, 5, 10, 0);
        r.thing(1, 11, 6);
        r.baseRow(0, 3);
        r.row(11, 0, 4);
        r.row(11, 1, 0, 3);
        r.on(1, 11, 5);
        r.on(1, 11, 10);
    }

    private static void noSuchPoint() {
        // one POINT: two LINES; A 0; E 0; a CIRCLE of span 0. None: the same way; A and B 0; one centre
        Run r = leaning();
        r.step(7, LINE, 4, 5);
        r.step(8, CIRCLE, 5, 3);
        r.step(9, CIRCLE, 5, 5);
        r.step(10, ALONG, 7, 3);
        r.step(11, CIRCLE, 3, 5);
        int[][] ofOne = {{6, 7}, {6, 8}, {7, 11}, {7, 9}};
        for (int n = 0; n < ofOne.length; n++) {
            r.step(12 + n, MEET, ofOne[n][0], ofOne[n][1], 0);
            r.step(MISSES, MEET, ofOne[n][0], ofOne[n][1], 1);
        }
        int[][] ofNone = {{7, 10}, {6, 11}, {8, 9}};
        for (int[] pair : ofNone) {
            r.step(MISSES, MEET, pair[0], pair[1], 0);
            r.step(MISSES, MEET, pair[0], pair[1], 1);
        }
        r.count(16, 0);
    }

    // ---- refusals

    /** As tallCircle, with a LINE along y = 0 (THING 15). */
    private static Run allRefusing() {
        Run r = tallCircle();
        r.step(15, ALONG, 12, 13);
        return r;
    }

    private static void refusedMakesNothing() {
        Run r = allRefusing();
        r.step(BAD, SUM, 0, 16);
        r.step(BAD, 14, 0, 0);
        r.step(ZERO, OVER, 0, 4);
        r.step(SAME, LINE, 10, 10);
        r.step(SAME, MEET, 12, 12, 0);
        r.step(MISSES, MEET, 12, 15, 0);
        r.step(HIGH, ROOT, 3);
        r.step(HIGH, MEET, 12, 14, 0);
        r.sameAs(allRefusing());
        // with 60 THINGS, THE TOWER does not grow by what there is no place for
        r = Run.over(5, 2);
        r.fillTo(60);
        r.step(FULL, ROOT, 0);
        r.count(0, 1);
        r.base(BAD, 0, 0);
        r.count(60, 0);
        r.count(0, 3);
        // what was refused is not there to be taken back
        r = Run.over(5, 2);
        r.step(1, ROOT, 0);
        r.step(BAD, ROOT, 2);
        r.back(1);
        r.count(0, 1);
    }

    private static void badEverywhere() {
        Run r = points();
        r.step(9, LINE, 4, 8);
        r.step(10, CIRCLE, 4, 8);
        int[] none = {LEAST, -1, 11, 60, MOST};
        for (int t : none) {
            r.thing(BAD, t, 0);
            r.coordinate(BAD, t, 0, 0);
            r.one(BAD, t, 0);
            r.one(BAD, 0, t);
            r.on(BAD, t, 9);
            r.on(BAD, 4, t);
            r.way(BAD, t, 9);
            r.way(BAD, 9, t);
            noNumber(r, t);
        }
        int[] noNumbers = {4, 9, 10};
        for (int t : noNumbers) noNumber(r, t);
        int[] noLines = {0, 4, 10};
        for (int t : noLines) {
            r.way(BAD, t, 9);
            r.way(BAD, 9, t);
        }
        int[] noPoints = {0, 9, 10};
        for (int t : noPoints) r.on(BAD, t, 9);
        int[] noCurves = {0, 4};
        for (int t : noCurves) r.on(BAD, 4, t);
        int[] noKinds = {LEAST, -1, 14, MOST};
        for (int kind : noKinds) {
            r.step(BAD, kind, 0, 0, 0);
            r.count(BAD, kind);
        }
        r.count(11, 0);
    }

    private static void noNumber(Run r, int t) {
        r.square(BAD, t, 0);
        r.degree(BAD, t);
        r.coefficient(BAD, t, 0);
        r.conjugate(BAD, t, 0, 0);
        r.order(BAD, t);
        r.step(BAD, ROOT, t);
    }

    private static void firstRefusal() {
        // BAD, then FULL, then what a STEP is refused by
        Run r = allRefusing();
        r.fillTo(60);
        r.step(BAD, OVER, 0, 60);
        r.step(BAD, LINE, 10, 4);
        r.step(BAD, MEET, 12, 12, 2);
        r.step(FULL, OVER, 0, 4);
        r.step(FULL, LINE, 10, 10);
        r.step(FULL, MEET, 12, 12, 0);
        r.step(FULL, MEET, 12, 15, 0);
        r.step(FULL, ROOT, 3);
        // of ONE there is no POINT 1, but SAME is told ahead
        r.back(59);
        r.step(SAME, MEET, 12, 12, 1);
        r.step(SAME, MEET, 14, 14, 1);
        r.step(BAD, MEET, 12, 12, 2);
        // BAD ahead of NONE, of ZERO
        r.thing(BAD, 59, 8);
        r.conjugate(BAD, 0, 8, 8);
        r.conjugate(BAD, 59, 8, 0);
        // the thirteenth time: BAD, then FULL, then the STEP
        r = fragile();
        for (int time = 2; time <= 12; time++) r.prime(-27, 5);
        r.prime(BAD, 9);
        r.prime(FULL, 5);
        r.prime(FULL, 7);
        r.prime(BAD, 2);
    }
}
