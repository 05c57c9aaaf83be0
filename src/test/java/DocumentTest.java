import java.io.IOException;
import java.util.TreeSet;

/** The sentences of the document that tell the ordinary; those that name a boundary case are in the two tests of the edges. */
public final class DocumentTest implements Names {
    public static void main(String[] args) throws IOException {
        Sentences document = new Sentences();
        numbers(document);
        things(document);
        facts(document);
        promises(document);
        document.end();
    }

    private static void numbers(Sentences document) {
        document.holds(0, "An object is used for at most 512 calls after it has been made; what later calls answer is free.",
            DocumentTest::allCallsAnswered);
        document.holds(0, "NUMBERS of 0 are RESIDUES; one of k + 1 is a + b r", DocumentTest::halves);
        document.holds(0, "its COORDINATES are those of a, then those of b: 2^k of one of k.", DocumentTest::halves);
        document.holds(0, "There is just one way to add, take away, multiply, and to divide by what is not 0.", DocumentTest::oneWayToReckon);
        document.holds(0, "1 SUM a b. 2 LESS a b. 3 TIMES a b. 4 OVER a b", DocumentTest::tablesOfResidues);
        document.holds(0, "1 SUM a b. 2 LESS a b. 3 TIMES a b. 4 OVER a b", DocumentTest::tablesAtHeightOne);
        document.holds(0, "5 ROOT a: THE ROOT;", DocumentTest::rootsOfResidues);
        document.holds(0, "5 ROOT a: THE ROOT;", DocumentTest::rootsAtHeightOne);
    }

    private static void things(Sentences document) {
        document.holds(0, "60 at most: NUMBERS; POINTS (x, y); LINES a x + b y + c = 0, told with b 1, or, b being 0, with a 1;",
            DocumentTest::linesOfPairs);
        document.holds(0, "CIRCLES with a centre (h, k) and a SPAN s: (x - h)(x - h) + (y - k)(y - k) = s", DocumentTest::circlesOfPairs);
        document.holds(0, "Each comes by a STEP: its KIND and THINGS that came ahead, or wholes, as told:", DocumentTest::thingsAhead);
        document.holds(0, "6 POINT a b.", DocumentTest::pointsOfPairs);
        document.holds(0, "8 CIRCLE p q: round p, through q.", DocumentTest::circlesOfPairs);
        document.holds(0, "9 AROUND p a b: round p, the SPAN being as far as POINTS a, b lie apart, squared: (x - x')^2 + (y - y')^2.",
            DocumentTest::circlesAround);
        document.holds(0, "10 SQUARE UP l p: the LINE through p, square to l:", DocumentTest::linesFromLines);
        document.holds(0, "13 PART p i: of a POINT x (0), y (1);", DocumentTest::pointsOfPairs);
        document.holds(0, "Of a LINE and a CIRCLE: with t for x (LINES with b 1), else for y, what is on both gives A t t + B t + C = 0,"
            + " where A is 1 + a a, B 2 a (c + k) - 2 h, C h h + (c + k)(c + k) - s,"
            + " or, with t for y, A 1, B - 2 k, C k k + (c + h)(c + h) - s.", DocumentTest::linesMeetCircles);
        document.holds(0, "Else with E = B B - 4 A C:", DocumentTest::linesMeetCircles);
        document.holds(0, "Of two CIRCLES: with one centre: SAME (ONE), or none; else those of the first one and of the LINE"
            + " on which both equations, one less the other, are 0.", DocumentTest::circlesMeetCircles);
        document.holds(0, "3 MADE ANEW over another prime: HEIGHT 0, and all STEPS one by one", DocumentTest::madeAnew);
        document.holds(0, ": THINGS are what comes then.", DocumentTest::madeAnew);
    }

    private static void facts(Sentences document) {
        document.holds(0, "4 THE LEAST POLYNOMIAL of a NUMBER: of those with RESIDUES, the first one 1, of which it is a root",
            DocumentTest::rootsOfTheirPolynomials);
        document.holds(0, "THE ORDER of a NUMBER that is not 0: the least n above 0 with x^n = 1", DocumentTest::ordersAtHeightOne);
        document.holds(0, "are at k, if there is a NUMBER of ORDER n in a tower of HEIGHT k over P", DocumentTest::cornersWhereThereAreOrders);
    }

    private static void promises(Sentences document) {
        document.holds(2, "P becomes a prime, MADE ANEW: how many THINGS there are.", DocumentTest::madeAnew);
        document.holds(4, "A STEP: the THING's number.", DocumentTest::thingsAhead);
        document.holds(6, "Of a THING: 0 its sort (0 NUMBER, 1 POINT, 2 LINE, 3 CIRCLE), 1 the KIND of its STEP,", DocumentTest::sortsAndKinds);
        document.holds(6, ", 5 its PRICE, 6 whether", DocumentTest::sortsAndKinds);
        document.holds(11, "Of two LINES: 0 they meet", DocumentTest::waysOfPairs);
        document.holds(14, "The RESIDUE of t^i in THE LEAST POLYNOMIAL (0 beyond its degree).", DocumentTest::rootsOfTheirPolynomials);
        document.holds(16, "THE ORDER of a NUMBER.", DocumentTest::ordersAtHeightOne);
    }

    // ---- reckoning for the answers that are due

    private static int mod(long whole, int p) {
        return (int) Math.floorMod(whole, (long) p);
    }

    private static int over(int a, int b, int p) {
        for (int q = 0; q < p; q++) if (mod((long) q * b, p) == mod(a, p)) return q;
        throw new IllegalArgumentException("divided by 0");
    }

    /** (a + b r)(c + d r), r r being the base. */
    private static int[] times(int[] x, int[] y, int base, int p) {
        return new int[] {mod(x[0] * y[0] + base * x[1] * y[1], p), mod(x[0] * y[1] + x[1] * y[0], p)};
    }

    private static int firstNoSquare(int p) {
        boolean[] squares = new boolean[p];
        for (int x = 0; x < p; x++) squares[x * x % p] = true;
        int v = 0;
        while (squares[v]) v++;
        return v;
    }

    // ---- the object and its NUMBERS

    private static void allCallsAnswered() {
        Run r = new Run();
        for (int time = 1; time <= 12; time++) r.prime(0, 7);
        r.prime(FULL, 7);
        for (int t = 0; t < 60; t++) r.step(t, GIVEN, t);
        while (r.callsLeft() > 6) {
            r.back(59);
            r.step(59, GIVEN, r.callsLeft());
            r.coordinate(mod(r.callsLeft() + 1, 7), 59, 0, 0);
        }
        while (r.callsLeft() > 3) r.count(60, 0);
        r.back(59);
        r.step(59, ROOT, 3);
        r.coordinate(1, 59, 0, 1);
        if (r.callsLeft() != 0) Sentences.fault("the last call was not the 512th");
    }

    private static void halves() {
        Run r = Run.tall();
        int a = r.made(SUM, 0, 1);
        r.row(a, 0, 2, 1);
        int three = r.made(GIVEN, 3);
        int b = r.made(LESS, 1, three);
        r.row(b, 0, 2, 1);
        b = r.made(TIMES, b, three);
        r.row(b, 0, 1, 3);
        // a + b s, then b + a s, then the first one and t times the second one
        int c = r.made(SUM, a, r.made(TIMES, b, 2));
        r.row(c, 0, 2, 1, 1, 3);
        int d = r.made(SUM, b, r.made(TIMES, a, 2));
        r.row(d, 0, 1, 3, 2, 1);
        int e = r.made(SUM, c, r.made(TIMES, d, 3));
        r.row(e, 0, 2, 1, 1, 3, 1, 3, 2, 1);
        int[] all = {a, c, e};
        for (int k = 0; k < 3; k++) {
            r.thing(k + 1, all[k], 7);
            r.degree(2 << k, all[k]);
        }
    }

    /** The laws that leave one way alone, with NUMBERS of the greatest LEVEL. */
    private static void oneWayToReckon() {
        int[] primes = {5, 13, 32749};
        for (int p : primes) {
            Run r = Run.over(p, 2);
            for (int t = 1; t <= 3; t++) r.step(t, ROOT, t - 1);
            r.count(3, 1);
            int one = r.made(GIVEN, 1);
            int x = r.made(SUM, 2, r.made(TIMES, 3, r.made(SUM, one, 1)));
            int y = r.made(TIMES, r.made(SUM, 1, 2), r.made(SUM, 0, 3));
            int z = r.made(LESS, r.made(TIMES, 2, x), r.made(SUM, one, 3));
            int xy = r.made(TIMES, x, y);
            int sum = r.made(SUM, x, y);
            r.one(1, sum, r.made(SUM, y, x));
            r.one(1, xy, r.made(TIMES, y, x));
            r.one(1, r.made(SUM, sum, z), r.made(SUM, x, r.made(SUM, y, z)));
            r.one(1, r.made(TIMES, xy, z), r.made(TIMES, x, r.made(TIMES, y, z)));
            r.one(1, r.made(TIMES, sum, z), r.made(SUM, r.made(TIMES, x, z), r.made(TIMES, y, z)));
            r.one(1, r.made(LESS, sum, y), x);
            r.one(1, r.made(OVER, xy, y), x);
            r.one(1, r.made(TIMES, r.made(OVER, x, z), z), x);
            r.one(1, r.made(SUM, r.made(LESS, x, z), z), x);
            r.one(1, r.made(TIMES, x, one), x);
            int nothing = r.made(LESS, x, x);
            r.row(nothing, 0);
            r.one(1, r.made(SUM, x, nothing), x);
            r.row(r.made(TIMES, x, nothing), 0);
            r.row(r.made(OVER, x, x), 0, 1);
        }
    }

    /** Over p: the RESIDUES, each being the THING of its number. */
    private static Run residues(int p) {
        Run r = Run.over(p);
        for (int v = 0; v < p; v++) r.step(v, GIVEN, v);
        return r;
    }

    private static void dueResidue(Run r, int want, int kind, int a, int b) {
        int t = r.made(kind, a, b);
        r.coordinate(want, t, 0, 0);
        r.coordinate(0, t, 0, 1);
        r.back(t);
    }

    private static void tablesOfResidues() {
        int[] primes = {3, 5, 7, 11};
        for (int p : primes) {
            for (int a = 0; a < p; a++) {
                Run r = residues(p);
                for (int b = 0; b < p; b++) {
                    dueResidue(r, (a + b) % p, SUM, a, b);
                    dueResidue(r, mod(a - b, p), LESS, a, b);
                }
                r = residues(p);
                for (int b = 0; b < p; b++) {
                    dueResidue(r, a * b % p, TIMES, a, b);
                    if (b != 0) dueResidue(r, over(a, b, p), OVER, a, b);
                }
            }
        }
    }

    /** As residues, and behind these THE TOWER of HEIGHT 1: THING p is r. */
    private static Run withRoot(int p) {
        Run r = residues(p);
        r.step(p, ROOT, firstNoSquare(p));
        r.count(1, 1);
        return r;
    }

    /** The NUMBER a + b r, in a run that has the RESIDUES and r. */
    private static int pair(Run r, int p, int a, int b) {
        return r.made(SUM, a, r.made(TIMES, b, p));
    }

    private static void tablesAtHeightOne() {
        int[] primes = {3, 5};
        for (int p : primes) {
            int base = firstNoSquare(p);
            for (int m = 0; m < p * p; m++) {
                for (int n = 0; n < p * p; n++) {
                    int[] x = {m / p, m % p};
                    int[] y = {n / p, n % p};
                    Run r = withRoot(p);
                    int s = pair(r, p, x[0], x[1]);
                    int t = pair(r, p, y[0], y[1]);
                    r.row(r.made(SUM, s, t), 0, (x[0] + y[0]) % p, (x[1] + y[1]) % p);
                    r.row(r.made(LESS, s, t), 0, mod(x[0] - y[0], p), mod(x[1] - y[1], p));
                    r.row(r.made(TIMES, s, t), 0, times(x, y, base, p));
                    if (n == 0) r.step(ZERO, OVER, s, t);
                    else r.one(1, r.made(TIMES, t, r.made(OVER, s, t)), s);
                }
            }
        }
    }

    private static void rootsOfResidues() {
        for (int p = 3; p < 60; p += 2) {
            if (new CompassTowers().prime(p) != 0) continue;
            int[] least = new int[p];
            for (int x = p - 1; x > 0; x--) least[x * x % p] = x;
            for (int v = 0; v < p; v++) {
                Run r = Run.over(p, v);
                r.step(1, ROOT, 0);
                boolean grows = v != 0 && least[v] == 0;
                r.thing(grows ? 1 : 0, 1, 6);
                if (grows) r.base(v, 0, 0);
                r.coordinate(least[v], 1, 0, 0);
                r.coordinate(grows ? 1 : 0, 1, 0, 1);
            }
        }
    }

    private static void rootsAtHeightOne() {
        int[] primes = {3, 5, 7, 11, 13};
        for (int p : primes) {
            int base = firstNoSquare(p);
            int[][] least = new int[p * p][];
            for (int m = p * p - 1; m >= 0; m--) {
                int[] x = {m / p, m % p};
                int[] square = times(x, x, base, p);
                least[square[0] * p + square[1]] = x;
            }
            for (int m = 0; m < p * p; m++) {
                Run r = withRoot(p);
                int t = r.made(ROOT, pair(r, p, m / p, m % p));
                if (least[m] != null) {
                    r.row(t, 0, least[m]);
                    r.count(1, 1);
                } else {
                    r.row(t, 0, 0, 0, 1);
                    r.baseRow(1, m / p, m % p);
                }
            }
        }
    }

    // ---- THINGS, over a prime with each POINT and each LINE of RESIDUES

    private static void thingsAhead() {
        Run r = residues(7);
        for (int kind = SUM; kind <= TIMES; kind++) {
            r.step(BAD, kind, 0, 7);
            r.step(BAD, kind, 7, 0);
        }
        r.step(7, POINT, 1, 2);
        r.step(8, POINT, 3, 4);
        r.step(BAD, LINE, 7, 9);
        r.step(9, LINE, 7, 8);
        r.step(BAD, ALONG, 10, 7);
        r.step(10, ALONG, 9, 7);
        r.step(BAD, MEET, 9, 11, 0);
        r.step(11, CIRCLE, 7, 8);
        r.step(12, MEET, 9, 11, 0);
        r.step(13, PART, 12, 0);
        // a THING's number is that of the next one again, where it was taken back
        r.back(13);
        r.step(BAD, SUM, 0, 13);
        r.step(13, PART, 12, 1);
        r.step(14, SUM, 0, 13);
    }

    private static void pointsOfPairs() {
        int p = 5;
        for (int x = 0; x < p; x++) {
            for (int y = 0; y < p; y++) {
                Run r = residues(p);
                int t = r.made(POINT, x, y);
                r.thing(1, t, 0);
                r.residues(t, x, y);
                r.one(1, r.made(PART, t, 0), x);
                r.one(1, r.made(PART, t, 1), y);
            }
        }
    }

    /** A run with two POINTS as THINGS p and p + 1: place n is (n / p, n mod p). */
    private static Run withPoints(int p, int m, int n) {
        Run r = residues(p);
        r.step(p, POINT, m / p, m % p);
        r.step(p + 1, POINT, n / p, n % p);
        return r;
    }

    private static void linesOfPairs() {
        int[] primes = {3, 5};
        for (int p : primes) {
            for (int m = 0; m < p * p; m++) {
                for (int n = 0; n < p * p; n++) {
                    if (m == n) continue;
                    Run r = withPoints(p, m, n);
                    int l = r.made(LINE, p, p + 1);
                    int dx = n / p - m / p;
                    int a = dx == 0 ? 1 : mod(-over(n % p - m % p, dx, p), p);
                    int b = dx == 0 ? 0 : 1;
                    int c = mod(-a * (m / p) - b * (m % p), p);
                    r.thing(2, l, 0);
                    r.residues(l, a, b, c);
                    for (int x = 0; x < p; x++) {
                        for (int y = 0; y < p; y++) r.on(mod(a * x + b * y + c, p) == 0 ? 1 : 0, r.made(POINT, x, y), l);
                    }
                }
            }
        }
    }

    private static void circlesOfPairs() {
        int[] primes = {3, 5};
        for (int p : primes) {
            for (int m = 0; m < p * p; m++) {
                for (int n = 0; n < p * p; n++) {
                    Run r = withPoints(p, m, n);
                    int c = r.made(CIRCLE, p, p + 1);
                    int span = apart(m / p, m % p, n / p, n % p, p);
                    r.thing(3, c, 0);
                    r.residues(c, m / p, m % p, span);
                    for (int x = 0; x < p; x++) {
                        for (int y = 0; y < p; y++) {
                            r.on(apart(x, y, m / p, m % p, p) == span ? 1 : 0, r.made(POINT, x, y), c);
                        }
                    }
                }
            }
        }
    }

    private static int apart(int x, int y, int h, int k, int p) {
        return mod((x - h) * (x - h) + (y - k) * (y - k), p);
    }

    private static void circlesAround() {
        int p = 5;
        for (int m = 0; m < p * p; m++) {
            for (int n = 0; n < p * p; n++) {
                Run r = withPoints(p, m, n);
                int centre = r.made(POINT, (m + n) % p, m % 3);
                r.residues(r.made(AROUND, centre, p, p + 1), (m + n) % p, m % 3, apart(m / p, m % p, n / p, n % p, p));
            }
        }
    }

    /** ALONG and SQUARE UP; over 7 no LINE is square to itself. */
    private static void linesFromLines() {
        int p = 7;
        for (int m = 0; m < p * p; m += 3) {
            for (int n = 1; n < p * p; n += 5) {
                if (m == n) continue;
                Run r = withPoints(p, m, n);
                int l = r.made(LINE, p, p + 1);
                int q = r.made(POINT, (m + n) % p, n % 4);
                int along = r.made(ALONG, l, q);
                int square = r.made(SQUARE_UP, l, q);
                r.on(1, q, along);
                r.on(1, q, square);
                r.way(1, l, along);
                r.way(2, l, square);
                r.way(2, square, along);
                r.way(1, square, r.made(SQUARE_UP, along, p));
                r.one(1, l, r.made(SQUARE_UP, square, p));
                int foot = r.made(MEET, l, square, 0);
                r.on(1, foot, l);
                r.on(1, foot, square);
                r.step(MISSES, MEET, l, square, 1);
                if (r.it.one(foot, q) == 0) r.one(1, square, r.made(LINE, foot, q));
            }
        }
    }

    /** LINES through (0, 0) that go each way there is: by their a, b being 1, and at last with b 0. */
    private static void waysOfPairs() {
        int[] primes = {3, 5, 7, 13};
        for (int p : primes) {
            for (int m = 0; m <= p; m++) {
                Run r = residues(p);
                int origin = r.made(POINT, 0, 0);
                int l = r.made(LINE, origin, placeAlong(r, p, m));
                for (int n = 0; n <= p; n++) {
                    boolean square = m < p && n < p ? mod(m * n + 1, p) == 0 : m + n == p;
                    int t = r.made(LINE, origin, placeAlong(r, p, n));
                    r.way(square ? 2 : m == n ? 1 : 0, l, t);
                    r.way(square ? 2 : m == n ? 1 : 0, t, l);
                }
            }
        }
    }

    private static int placeAlong(Run r, int p, int way) {
        return way < p ? r.made(POINT, 1, mod(-way, p)) : r.made(POINT, 0, 1);
    }

    // ---- MEETING: what is due is looked for among all POINTS of RESIDUES

    /** POINTS that lie so far apart: what x and y must be, the other one being (0, 0). */
    private static int[] placeAt(int span, int p) {
        for (int n = 0; n < p * p; n++) if (apart(n / p, n % p, 0, 0, p) == span) return new int[] {n / p, n % p};
        throw new IllegalArgumentException("no such span");
    }

    /** The CIRCLE of a span round a POINT, in a run that has the RESIDUES. */
    private static int circle(Run r, int p, int centre, int span) {
        int[] place = placeAt(span, p);
        return r.made(AROUND, centre, r.made(POINT, 0, 0), r.made(POINT, place[0], place[1]));
    }

    private static void linesMeetCircles() {
        int[] primes = {3, 5, 7};
        for (int p : primes) {
            // LINES with b 1 by their a and c; behind these, those with a 1 by their c
            for (int line = 0; line < p * p + p; line++) {
                int[][] places = new int[p][];
                for (int t = 0; t < p; t++) {
                    places[t] = line < p * p ? new int[] {t, mod(-t * (line / p) - line % p, p)} : new int[] {mod(-line, p), t};
                }
                for (int centre = line % 2; centre < p * p; centre += 2) {
                    for (int span = 0; span < p; span++) {
                        Run r = residues(p);
                        int l = r.made(LINE, r.made(POINT, places[0]), r.made(POINT, places[1]));
                        int c = circle(r, p, r.made(POINT, centre / p, centre % p), span);
                        dueMeeting(r, p, l, c, places, values(places, centre, span, p));
                        dueMeeting(r, p, c, l, places, values(places, centre, span, p));
                    }
                }
            }
        }
    }

    /** How much a CIRCLE's equation fails by, in each of some places. */
    private static int[] values(int[][] places, int centre, int span, int p) {
        int[] values = new int[p];
        for (int t = 0; t < p; t++) values[t] = mod(apart(places[t][0], places[t][1], centre / p, centre % p, p) - span, p);
        return values;
    }

    /** MEET g h, where A t t + B t + C has these values; places are those of a LINE by its t. All is taken back. */
    private static void dueMeeting(Run r, int p, int g, int h, int[][] places, int[] values) {
        int c = values[0];
        int a = over(values[2] - 2 * values[1] + c, 2, p);
        int b = mod(values[1] - c - a, p);
        int[] roots = new int[p];
        int many = 0;
        for (int t = 0; t < p; t++) if (values[t] == 0) roots[many++] = t;
        for (int i = 0; i < 2; i++) {
            if (many == p) r.step(SAME, MEET, g, h, i);
            else if (a == 0 && b == 0 || many == 1 && i == 1) r.step(MISSES, MEET, g, h, i);
            else if (many == 0) dueGrowth(r, p, r.made(MEET, g, h, i), i, new int[] {a, b, c}, places);
            else {
                // of two, the second one less the first one, times A, is THE ROOT of E
                boolean inOrder = many == 1 || 2 * mod(a * (roots[1] - roots[0]), p) < p;
                int[] place = places[roots[inOrder ? i : 1 - i]];
                int t = r.made(MEET, g, h, i);
                r.coordinate(place[0], t, 0, 0);
                r.coordinate(place[1], t, 1, 0);
                r.thing(0, t, 6);
                r.thing(0, t, 7);
                r.back(t);
            }
        }
    }

    /** The POINT with t = (-B - r) / (2 A) or (-B + r) / (2 A), r r being B B - 4 A C. */
    private static void dueGrowth(Run r, int p, int t, int i, int[] equation, int[][] places) {
        int a = equation[0];
        int b = equation[1];
        r.base(mod(b * b - 4 * a * equation[2], p), 0, 0);
        r.thing(1, t, 6);
        int low = over(-b, 2 * a, p);
        int high = over(i == 0 ? -1 : 1, 2 * a, p);
        // on a LINE each of x, y is one in (0) and, as t goes by one, changes by what it changes from (0) to (1)
        for (int n = 0; n < 2; n++) {
            int slope = places[1][n] - places[0][n];
            r.coordinate(mod(places[0][n] + slope * low, p), t, n, 0);
            r.coordinate(mod(slope * high, p), t, n, 1);
        }
        r.back(t);
    }

    private static void circlesMeetCircles() {
        int[] primes = {3, 5};
        for (int p : primes) {
            for (int first = 0; first < p * p; first++) {
                for (int second = 0; second < p * p; second++) {
                    for (int span = 0; span < p * p; span++) twoCircles(p, first, second, span / p, span % p);
                }
            }
        }
    }

    private static void twoCircles(int p, int first, int second, int firstSpan, int secondSpan) {
        Run r = residues(p);
        int g = circle(r, p, r.made(POINT, first / p, first % p), firstSpan);
        int h = circle(r, p, r.made(POINT, second / p, second % p), secondSpan);
        if (first == second) {
            for (int i = 0; i < 2; i++) r.step(firstSpan == secondSpan ? SAME : MISSES, MEET, g, h, i);
            return;
        }
        int[][] common = new int[p][];
        int many = 0;
        for (int n = 0; n < p * p; n++) {
            int[] place = {n / p, n % p};
            int inFirst = apart(place[0], place[1], first / p, first % p, p) - firstSpan;
            int inSecond = apart(place[0], place[1], second / p, second % p, p) - secondSpan;
            if (mod(inFirst - inSecond, p) == 0) common[many++] = place;
        }
        dueMeeting(r, p, g, h, common, values(common, first, firstSpan, p));
    }

    // ---- MADE ANEW

    /** STEPS of each KIND, which none of the primes 7, 11, 13, 101, 32719, 32749 refuses. */
    private static final int[][] EACH_KIND = {{GIVEN, 2}, {GIVEN, -30}, {GIVEN, 3}, {SUM, 0, 1}, {LESS, 2, 1}, {TIMES, 3, 4}, {OVER, 0, 2},
        {POINT, 0, 1}, {POINT, 2, 6}, {LINE, 7, 8}, {CIRCLE, 7, 8}, {AROUND, 8, 7, 8}, {SQUARE_UP, 9, 8}, {ALONG, 12, 7},
        {MEET, 10, 11, 0}, {MEET, 10, 11, 1}, {MEET, 9, 12, 0}, {PART, 15, 1}, {ROOT, 5}, {PART, 12, 2}, {SUM, 18, 17}};

    private static void make(Run r) {
        for (int t = 0; t < EACH_KIND.length; t++) {
            int[] told = new int[EACH_KIND[t].length - 1];
            System.arraycopy(EACH_KIND[t], 1, told, 0, told.length);
            r.step(t, EACH_KIND[t][0], told);
        }
    }

    private static void madeAnew() {
        int[] primes = {7, 11, 13, 101, 32719, 32749};
        for (int from : primes) {
            for (int to : primes) {
                Run anew = Run.over(from);
                make(anew);
                // by way of all others, as what was made over these must leave no trace
                for (int p : primes) anew.prime(EACH_KIND.length, p);
                anew.prime(EACH_KIND.length, to);
                Run direct = Run.over(to);
                make(direct);
                anew.sameAs(direct);
            }
        }
    }

    private static void sortsAndKinds() {
        int[] sorts = {0, 0, 0, 0, 0, 0, 1, 2, 3, 3, 2, 2, 1, 0};
        int[] prices = {0, 0, 0, 0, 0, 2, 0, 1, 1, 1, 1, 1, 3, 0};
        int[] primes = {7, 13, 32749};
        for (int p : primes) {
            Run r = Run.over(p);
            make(r);
            int together = 0;
            for (int t = 0; t < EACH_KIND.length; t++) {
                int kind = EACH_KIND[t][0];
                r.thing(sorts[kind], t, 0);
                r.thing(kind, t, 1);
                for (int n = 1; n <= 3; n++) r.thing(n < EACH_KIND[t].length ? EACH_KIND[t][n] : 0, t, n + 1);
                boolean free = (kind == ROOT || kind == MEET) && r.it.thing(t, 6) == 0;
                r.thing(free ? 0 : prices[kind], t, 5);
                together += free ? 0 : prices[kind];
            }
            r.count(together, 3);
        }
    }

    // ---- THE LEAST POLYNOMIAL, THE ORDER, CORNERS

    private static void rootsOfTheirPolynomials() {
        int[] primes = {5, 13, 32749};
        for (int p : primes) {
            for (int n = 0; n < 6; n++) {
                Run r = Run.over(p, 2);
                for (int t = 1; t <= 3; t++) r.step(t, ROOT, t - 1);
                int low = r.made(SUM, 1, 0);
                int middle = r.made(SUM, r.made(TIMES, low, 2), 1);
                int high = r.made(SUM, r.made(TIMES, middle, 3), low);
                int[] numbers = {0, low, middle, high, 2, 3};
                int[] degrees = {1, 2, 4, 8, 4, 8};
                dueRoot(r, numbers[n], degrees[n]);
            }
        }
    }

    /** That THE LEAST POLYNOMIAL of x, of this degree, is 0 in x; it has as many CONJUGATES, so none of a lesser degree is. */
    private static void dueRoot(Run r, int x, int degree) {
        r.degree(degree, x);
        r.coefficient(1, x, degree);
        int value = r.made(GIVEN, 1);
        for (int i = degree - 1; i >= 0; i--) {
            value = r.made(SUM, r.made(TIMES, value, x), r.made(GIVEN, r.it.coefficient(x, i)));
        }
        r.row(value, 0);
        TreeSet<String> all = new TreeSet<>();
        for (int i = 0; i < degree; i++) {
            StringBuilder one = new StringBuilder();
            for (int j = 0; j < 8; j++) one.append(r.it.conjugate(x, i, j)).append(' ');
            all.add(one.toString());
        }
        if (all.size() != degree) Sentences.fault("two CONJUGATES are the same: " + all);
        r.conjugate(NONE, x, degree, 0);
    }

    private static void ordersAtHeightOne() {
        int[] primes = {3, 5, 7, 11, 13};
        for (int p : primes) {
            int base = firstNoSquare(p);
            for (int m = 1; m < p * p; m++) {
                int[] x = {m / p, m % p};
                int[] power = x;
                int n = 1;
                while (power[0] != 1 || power[1] != 0) {
                    power = times(power, x, base, p);
                    n++;
                }
                Run r = withRoot(p);
                r.order(n, pair(r, p, x[0], x[1]));
            }
        }
    }

    private static void cornersWhereThereAreOrders() {
        int[] primes = {3, 5, 7, 11};
        for (int p : primes) {
            TreeSet<Integer> low = new TreeSet<>();
            TreeSet<Integer> high = new TreeSet<>();
            for (int m = 1; m < p * p; m++) {
                Run r = withRoot(p);
                high.add(r.it.order(pair(r, p, m / p, m % p)));
                if (m < p) low.add(r.it.order(m));
            }
            dueCorners(p, low, 0);
            dueCorners(p, high, 1);
        }
        // over 3 at HEIGHT 2, r r being 2 and s s 1 + r
        TreeSet<Integer> orders = new TreeSet<>();
        for (int n = 1; n < 81; n++) {
            Run r = withRoot(3);
            int s = r.made(ROOT, pair(r, 3, 1, 1));
            r.count(2, 1);
            orders.add(r.it.order(r.made(SUM, pair(r, 3, n / 27, n / 9 % 3), r.made(TIMES, pair(r, 3, n / 3 % 3, n % 3), s))));
        }
        dueCorners(3, orders, 2);
    }

    /** That figures of as many sides as there are orders, and no others, have their CORNERS up to HEIGHT k. */
    private static void dueCorners(int p, TreeSet<Integer> orders, int k) {
        CompassTowers x = new CompassTowers();
        x.prime(p);
        for (int n = 3; n <= 200; n++) {
            int first = x.corners(n);
            if ((first >= 0 && first <= k) != orders.contains(n)) {
                Sentences.fault("over " + p + " corners(" + n + ") answered " + first + ", the orders at " + k + " being " + orders);
            }
        }
    }
}
