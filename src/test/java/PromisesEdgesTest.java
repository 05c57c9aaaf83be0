import java.io.IOException;

/** The boundary cases that promises 1 to 18 name, each sentence with a test of its own. */
public final class PromisesEdgesTest implements Names {
    public static void main(String[] args) throws IOException {
        Sentences document = new Sentences();
        making(document);
        showing(document);
        asking(document);
        document.end();
    }

    private static void making(Sentences document) {
        document.holds(1, "P is 3, no THINGS.", PromisesEdgesTest::empty);
        document.holds(2, "how many THINGS there are.", PromisesEdgesTest::primeCountsThings);
        document.holds(2, "BAD: p is no odd prime from 3 to 32749.", PromisesEdgesTest::allPrimes);
        document.holds(2, "FULL: this was the thirteenth time that it would be", PromisesEdgesTest::thirteenth);
        document.holds(2, "(those that were refused count, too).", PromisesEdgesTest::refusedTimesCount);
        document.holds(2, "-20 less the first STEP that is refused (why() tells by what).", PromisesEdgesTest::firstRefusedStep);
        document.holds(3, "What refused the STEP in the latest prime() that answered so", PromisesEdgesTest::whyOfTheLatest);
        document.holds(3, "ZERO to HIGH;", PromisesEdgesTest::whyOfEachRefusal);
        document.holds(3, "0: none yet.", PromisesEdgesTest::whyNoneYet);
        document.holds(4, "BAD: the KIND; what it names", PromisesEdgesTest::badSteps);
        document.holds(4, "(of 0, 5, 13, .. only what is told).", PromisesEdgesTest::untoldIsFree);
        document.holds(4, "FULL: 60 THINGS (asked behind BAD).", PromisesEdgesTest::fullBehindBad);
        document.holds(4, "ZERO, SAME, MISSES, HIGH: as told.", PromisesEdgesTest::refusedAsTold);
        document.holds(5, "The latest STEP is taken back, with its THING, and THE TOWER is as it was ahead of it: how many are left.",
            PromisesEdgesTest::backToTheTowerAhead);
        document.holds(5, "NONE: there is none.", PromisesEdgesTest::nothingToTakeBack);
    }

    private static void showing(Sentences document) {
        document.holds(6, "2 to 4 the numbers of that (0 where it has none)", PromisesEdgesTest::toldNumbers);
        document.holds(6, "6 whether THE TOWER GREW by it (1, 0)", PromisesEdgesTest::grewBy);
        document.holds(6, "7 the greatest LEVEL of its NUMBERS.", PromisesEdgesTest::greatestLevel);
        document.holds(6, "BAD (-1): no such THING; NONE: another what.", PromisesEdgesTest::noSuchThingOrWhat);
        document.holds(7, "COORDINATE j (0 .. 7; 0 where it has not so many)", PromisesEdgesTest::coordinatesBeyond);
        document.holds(7, "of NUMBER i of a THING (a NUMBER: 0; a POINT: x, y; a LINE: a, b, c; a CIRCLE: h, k, s). BAD.",
            PromisesEdgesTest::numbersBeyond);
        document.holds(8, "COORDINATE j (0 .. 3; 0 where it has not so many) of BASE D(k).", PromisesEdgesTest::baseCoordinates);
        document.holds(8, "BAD: also k is not below the HEIGHT.", PromisesEdgesTest::baseAtTheHeight);
    }

    private static void asking(Sentences document) {
        document.holds(9, "1: two THINGS are ONE; 0. BAD.", PromisesEdgesTest::one);
        document.holds(10, "1: a POINT is on a LINE, CIRCLE; 0. BAD.", PromisesEdgesTest::on);
        document.holds(11, "0 they meet, 1 they go the same way, 2 they are square to one another (a a' + b b' is 0; told ahead of 1). BAD.",
            PromisesEdgesTest::way);
        document.holds(12, "1: a NUMBER is a SQUARE at k; 0.", PromisesEdgesTest::squaresOfSmallPrimes);
        document.holds(12, "BAD: no NUMBER, k is above the HEIGHT, or below its LEVEL.", PromisesEdgesTest::squareBeyond);
        document.holds(13, "The degree of THE LEAST POLYNOMIAL of a NUMBER. BAD.", PromisesEdgesTest::degree);
        document.holds(14, "(0 beyond its degree).", PromisesEdgesTest::beyondTheDegree);
        document.holds(14, "BAD: also i is below 0.", PromisesEdgesTest::coefficientBelow);
        document.holds(15, "COORDINATE j (0 .. 7) of CONJUGATE i of a NUMBER (0: itself).", PromisesEdgesTest::conjugateItself);
        document.holds(15, "BAD (i below 0, too);", PromisesEdgesTest::conjugateBelow);
        document.holds(15, "NONE: it has not so many.", PromisesEdgesTest::conjugateBeyond);
        document.holds(16, "BAD; ZERO: it is 0;", PromisesEdgesTest::orderOfZero);
        document.holds(16, "NONE: it is above 4000.", PromisesEdgesTest::orderAbove);
        document.holds(17, "At which k from 0 to 3 the CORNERS of n sides are first;", PromisesEdgesTest::cornersFirst);
        document.holds(17, "NONE: at none.", PromisesEdgesTest::cornersAtNone);
        document.holds(17, "BAD: n is below 3.", PromisesEdgesTest::cornersBelow);
        document.holds(18, "How many: 0 THINGS, 1 HEIGHT, 2 P, 3 PRICES together, 4 NUMBERS, 5 POINTS, 6 LINES, 7 CIRCLES.",
            PromisesEdgesTest::counts);
        document.holds(18, "BAD.", PromisesEdgesTest::countBeyond);
    }

    // ---- promises 1 to 5

    private static void empty() {
        Run r = new Run();
        int[] want = {0, 0, 3, 0, 0, 0, 0, 0};
        for (int what = 0; what < 8; what++) r.count(want[what], what);
        r.thing(BAD, 0, 0);
        r.coordinate(BAD, 0, 0, 0);
        r.one(BAD, 0, 0);
        r.step(BAD, ROOT, 0);
        r.base(BAD, 0, 0);
        // 3 is 0, and 4 is 1
        r.step(0, GIVEN, 3);
        r.residues(0, 0);
        r.step(1, GIVEN, 4);
        r.residues(1, 1);
        r.step(2, ROOT, 0);
        r.residues(2, 0);
        r.step(3, ROOT, 1);
        r.residues(3, 1);
        r.step(4, SUM, 1, 1);
        r.step(5, ROOT, 4);
        r.baseRow(0, 2);
        new Run().count(0, 0);
    }

    private static void primeCountsThings() {
        Run r = new Run();
        r.prime(0, 5);
        r.step(0, GIVEN, 1);
        r.prime(1, 5);
        r.fillTo(60);
        r.prime(60, 32749);
        r.back(59);
        r.prime(59, 3);
    }

    private static void allPrimes() {
        for (int p = -10; p < 33000; p++) new Run().prime(isOddPrimeInRange(p) ? 0 : BAD, p);
        int[] far = {LEAST, LEAST + 1, -32749, 65521, 65537, 32749 * 32749, MOST - 1, MOST};
        for (int p : far) new Run().prime(BAD, p);
        Run r = new Run();
        r.prime(BAD, 32771);
        r.count(3, 2);
    }

    private static boolean isOddPrimeInRange(int p) {
        if (p < 3 || p > 32749) return false;
        for (int d = 2; d * d <= p; d++) if (p % d == 0) return false;
        return true;
    }

    private static void thirteenth() {
        Run r = new Run();
        r.step(0, GIVEN, 12);
        int[] primes = {5, 7};
        for (int time = 1; time <= 12; time++) r.prime(1, primes[time % 2]);
        r.count(5, 2);
        r.residues(0, 2);
        // neither this time nor a later one, over whichever prime, changes a thing
        r.prime(FULL, 7);
        r.prime(FULL, 5);
        r.prime(FULL, 3);
        r.count(5, 2);
        r.residues(0, 2);
        r.why(0);
        // all else goes on
        r.step(1, ROOT, 0);
        r.count(1, 1);
        r.back(1);
        r.back(0);
        r.prime(FULL, 7);
    }

    private static void refusedTimesCount() {
        // over 3 to begin with: 1 / 5, which is refused over 5
        Run r = new Run();
        r.step(0, GIVEN, 1);
        r.step(1, GIVEN, 5);
        r.step(2, OVER, 0, 1);
        for (int time = 1; time <= 12; time++) r.prime(-22, 5);
        r.prime(FULL, 7);
        r.count(3, 2);
        // some refused, some not
        r = new Run();
        r.step(0, GIVEN, 1);
        r.step(1, GIVEN, 5);
        r.step(2, OVER, 0, 1);
        for (int time = 1; time <= 12; time++) r.prime(time % 3 == 0 ? -22 : 3, time % 3 == 0 ? 5 : 7);
        r.prime(FULL, 11);
        r.count(7, 2);
        // with what is no prime, P would not have become one: these are no times
        r = new Run();
        for (int call = 0; call < 30; call++) r.prime(BAD, 9);
        for (int time = 1; time <= 12; time++) r.prime(0, 7);
        r.prime(FULL, 7);
    }

    private static void firstRefusedStep() {
        // STEP 0 is a GIVEN always, so 1 is the first that can be refused, and 59 the last
        Run r = Run.over(7, 5);
        r.step(1, OVER, 0, 0);
        r.prime(-21, 5);
        r.why(ZERO);
        r = Run.over(7, 5);
        r.fillTo(59);
        r.step(59, OVER, 0, 0);
        r.prime(-79, 5);
        r.why(ZERO);
        // of two that would be refused, the first one tells: 0 / 5 ahead of the LINE through (0, 0) and (5, 0), and behind it
        r = Run.over(7, 0, 5);
        r.step(2, POINT, 0, 0);
        r.step(3, POINT, 1, 0);
        r.step(4, OVER, 0, 1);
        r.step(5, LINE, 2, 3);
        r.prime(-24, 5);
        r.why(ZERO);
        r.back(5);
        r.back(4);
        r.step(4, LINE, 2, 3);
        r.step(5, OVER, 0, 1);
        r.prime(-24, 5);
        r.why(SAME);
    }

    private static void whyOfTheLatest() {
        Run r = Run.over(7, 0, 5);
        r.step(2, OVER, 0, 1);
        r.prime(-22, 5);
        r.why(ZERO);
        // what answers otherwise leaves it
        r.prime(BAD, 4);
        r.why(ZERO);
        r.prime(3, 11);
        r.why(ZERO);
        r.step(BAD, 14, 0, 0);
        r.step(ZERO, OVER, 1, 0);
        r.step(3, POINT, 0, 0);
        r.step(SAME, LINE, 3, 3);
        r.why(ZERO);
        r.back(3);
        r.back(2);
        r.why(ZERO);
        // and the next one that answers so changes it
        r.step(2, POINT, 0, 0);
        r.step(3, POINT, 1, 0);
        r.step(4, LINE, 2, 3);
        r.prime(-24, 5);
        r.why(SAME);
        for (int time = 5; time <= 12; time++) r.prime(5, 13);
        r.prime(FULL, 5);
        r.why(SAME);
    }

    private static void whyOfEachRefusal() {
        Run r = Run.over(7, 0, 5);
        r.step(2, OVER, 0, 1);
        r.prime(-22, 5);
        r.why(ZERO);
        r = Run.over(7, 0, 5);
        r.step(2, POINT, 0, 0);
        r.step(3, POINT, 1, 0);
        r.step(4, LINE, 2, 3);
        r.prime(-24, 5);
        r.why(SAME);
        // y = 0 and y = 1 + 5 x go the same way over 5
        r = Run.over(7, 0, 1, 6);
        r.step(3, POINT, 0, 0);
        r.step(4, POINT, 1, 0);
        r.step(5, LINE, 3, 4);
        r.step(6, POINT, 0, 1);
        r.step(7, POINT, 1, 2);
        r.step(8, LINE, 6, 7);
        r.step(9, MEET, 5, 8, 0);
        r.prime(-29, 5);
        r.why(MISSES);
        // 2 is a SQUARE over 7, and so are its roots at HEIGHT 1
        r = Run.over(7, 2);
        for (int t = 1; t <= 4; t++) r.step(t, ROOT, t - 1);
        r.prime(-24, 5);
        r.why(HIGH);
    }

    private static void whyNoneYet() {
        Run r = new Run();
        r.why(0);
        r.prime(BAD, 9);
        r.why(0);
        r.prime(0, 7);
        r.why(0);
        r.step(0, GIVEN, 0);
        r.step(ZERO, OVER, 0, 0);
        r.why(0);
        for (int time = 2; time <= 12; time++) r.prime(1, 7);
        r.prime(FULL, 7);
        r.why(0);
    }

    /** Over 7: NUMBERS 0 and 1, POINTS (0, 1) and (1, 1), the LINE and the CIRCLE with these. */
    private static Run everySort() {
        Run r = Run.over(7, 0, 1);
        r.step(2, POINT, 0, 1);
        r.step(3, POINT, 1, 1);
        r.step(4, LINE, 2, 3);
        r.step(5, CIRCLE, 2, 3);
        return r;
    }

    private static final int[] SORTS = {0, 0, 1, 1, 2, 3};

    /** Of a KIND, THINGS that will do, and behind them the sorts that each of them may have, a bit for each. */
    private static final int[][] NAMED = {{SUM, 0, 1, 1, 1}, {LESS, 0, 1, 1, 1}, {TIMES, 0, 1, 1, 1}, {OVER, 0, 1, 1, 1},
        {ROOT, 1, 1}, {POINT, 0, 1, 1, 1}, {LINE, 2, 3, 2, 2}, {CIRCLE, 2, 3, 2, 2}, {AROUND, 2, 3, 2, 2, 2, 2},
        {SQUARE_UP, 4, 2, 4, 2}, {ALONG, 4, 2, 4, 2}, {MEET, 4, 5, 12, 12}, {PART, 4, 14}};

    private static void badSteps() {
        int[] kinds = {LEAST, -2, -1, 14, 15, MOST};
        Run r = everySort();
        for (int kind : kinds) r.step(BAD, kind, 0, 0, 0);
        int[] none = {LEAST, -1, 6, 60, MOST};
        for (int[] row : NAMED) {
            int many = (row.length - 1) / 2;
            r = everySort();
            for (int at = 0; at < many; at++) {
                for (int t : none) stepWith(r, row, at, t, BAD);
                for (int t = 0; t < 6; t++) if ((row[1 + many + at] >> SORTS[t] & 1) == 0) stepWith(r, row, at, t, BAD);
            }
            r.count(6, 0);
            // with what will do it is a STEP
            stepWith(r, row, 0, row[1], 6);
        }
        r = everySort();
        int[] places = {LEAST, -1, 2, 3, MOST};
        for (int i : places) {
            r.step(BAD, MEET, 4, 5, i);
            r.step(BAD, PART, 2, i);
        }
        r.step(BAD, PART, 4, 3);
        r.step(BAD, PART, 5, 3);
        r.step(BAD, PART, 5, -1);
        r.count(6, 0);
    }

    private static void stepWith(Run r, int[] row, int at, int t, int want) {
        int many = (row.length - 1) / 2;
        int[] told = new int[3];
        System.arraycopy(row, 1, told, 0, many);
        told[at] = t;
        r.step(want, row[0], told);
    }

    private static void untoldIsFree() {
        Run r = everySort();
        int[] junk = {LEAST, -1, 60, MOST};
        int t = 6;
        for (int x : junk) {
            r.step(t++, GIVEN, 5, x, x);
            r.step(t++, ROOT, 1, x, x);
            r.step(t++, PART, 4, 2, x);
            for (int[] row : NAMED) {
                if (row.length == 5 && row[0] != MEET) r.step(t++, row[0], row[1], row[2], x);
            }
            while (t > 6) r.back(--t);
        }
        // all three of AROUND and MEET are told
        r.step(BAD, AROUND, 2, 3, 60);
        r.step(BAD, MEET, 4, 5, 60);
    }

    private static void fullBehindBad() {
        Run r = everySort();
        r.fillTo(59);
        r.step(59, GIVEN, 1);
        r.step(FULL, GIVEN, 1);
        r.step(BAD, 14, 0, 0);
        r.step(BAD, -1, 0, 0);
        for (int[] row : NAMED) {
            stepWith(r, row, 0, row[1], FULL);
            stepWith(r, row, 0, 60, BAD);
        }
        r.step(BAD, MEET, 4, 5, 2);
        r.step(BAD, PART, 4, 3);
        r.step(FULL, OVER, 1, 0);
        r.step(FULL, LINE, 2, 2);
        r.step(FULL, MEET, 4, 4, 0);
        r.count(60, 0);
        r.back(59);
        r.step(59, GIVEN, 1);
        r.step(FULL, GIVEN, 1);
    }

    private static void refusedAsTold() {
        Run r = everySort();
        r.step(ZERO, OVER, 1, 0);
        r.step(SAME, LINE, 3, 3);
        r.step(SAME, MEET, 4, 4, 0);
        r.step(SAME, MEET, 5, 5, 0);
        r.step(6, CIRCLE, 2, 2);
        r.step(MISSES, MEET, 5, 6, 0);
        r.step(MISSES, MEET, 4, 6, 1);
        r.count(7, 0);
        Run high = Run.tall();
        high.step(HIGH, ROOT, 3);
        high.count(4, 0);
    }

    private static void backToTheTowerAhead() {
        Run r = Run.tall();
        for (int t = 3; t >= 1; t--) {
            r.baseRow(t - 1, t == 1 ? 2 : 0, t == 2 ? 1 : 0, t == 3 ? 1 : 0);
            r.back(t);
            r.count(t - 1, 1);
            r.count(t, 0);
            r.base(BAD, t - 1, 0);
            r.thing(BAD, t, 0);
        }
        // another BASE in the same place: r r is 3 now, and s s is r + 1, as its norm, 1 - 3, is none
        r.step(1, GIVEN, 3);
        r.step(2, ROOT, 1);
        r.baseRow(0, 3);
        r.step(3, TIMES, 2, 2);
        r.row(3, 0, 3);
        r.step(4, GIVEN, 1);
        r.step(5, SUM, 2, 4);
        r.step(6, ROOT, 5);
        r.baseRow(1, 1, 1);
        r.step(7, TIMES, 6, 6);
        r.row(7, 0, 1, 1);
        // back behind a STEP that did not grow leaves THE TOWER
        r.back(7);
        r.count(2, 1);
        r.back(6);
        r.count(1, 1);
        // a MEET by which it grew, after it was made anew
        Run m = Run.over(7, 0, 1, 3);
        m.step(3, POINT, 0, 0);
        m.step(4, POINT, 1, 2);
        m.step(5, POINT, 1, 0);
        m.step(6, CIRCLE, 3, 4);
        m.step(7, LINE, 3, 5);
        m.step(8, MEET, 7, 6, 0);
        m.count(1, 1);
        m.prime(9, 5);
        // over 5 the span is 0 and nothing grows
        m.count(0, 1);
        m.prime(9, 7);
        m.count(1, 1);
        m.count(5, 3);
        m.back(8);
        m.count(0, 1);
        m.base(BAD, 0, 0);
        m.count(2, 3);
    }

    private static void nothingToTakeBack() {
        Run r = new Run();
        r.back(NONE);
        r.step(0, GIVEN, 1);
        r.back(0);
        r.back(NONE);
        r.back(NONE);
        r.count(0, 0);
        r.prime(0, 7);
        r.back(NONE);
        r.count(7, 2);
        r.step(0, GIVEN, 1);
        r.fillTo(60);
        for (int t = 59; t >= 0; t--) r.back(t);
        r.back(NONE);
    }

    // ---- promises 6 to 8

    private static void toldNumbers() {
        int x = -99;
        int[][] steps = {{GIVEN, LEAST, x, x}, {GIVEN, 1, x, x}, {SUM, 0, 1, x}, {LESS, 0, 1, x}, {TIMES, 0, 1, x}, {OVER, 0, 1, x},
            {ROOT, 1, x, x}, {POINT, 0, 1, x}, {POINT, 1, 1, x}, {LINE, 7, 8, x}, {CIRCLE, 7, 8, x}, {AROUND, 8, 7, 8},
            {SQUARE_UP, 9, 7, x}, {ALONG, 9, 7, x}, {MEET, 10, 9, 1}, {PART, 10, 2, x}};
        Run r = Run.over(7);
        for (int t = 0; t < steps.length; t++) r.step(t, steps[t][0], steps[t][1], steps[t][2], steps[t][3]);
        for (int t = 0; t < steps.length; t++) {
            for (int what = 1; what <= 4; what++) {
                int told = steps[t][what - 1];
                r.thing(told == x ? 0 : told, t, what);
            }
        }
        // as they were told, over another prime, too
        r.prime(16, 11);
        r.thing(LEAST, 0, 2);
        r.thing(10, 14, 2);
        r.thing(9, 14, 3);
        r.thing(1, 14, 4);
    }

    private static void grewBy() {
        Run r = Run.tall();
        int[] want = {0, 1, 1, 1};
        for (int t = 0; t < 4; t++) r.thing(want[t], t, 6);
        r.step(4, ROOT, 2);
        r.thing(0, 4, 6);
        // over 7 2 is a SQUARE, and 3, its ROOT, is none
        r.prime(5, 7);
        r.thing(0, 1, 6);
        r.thing(1, 2, 6);
        r.thing(2, 2, 5);
        // a STEP put where a grown one was taken back
        r = Run.over(5, 2);
        r.step(1, ROOT, 0);
        r.thing(1, 1, 6);
        r.back(1);
        r.step(1, GIVEN, 1);
        r.thing(0, 1, 6);
        r.thing(0, 1, 5);
    }

    private static void greatestLevel() {
        Run r = Run.tall();
        for (int t = 0; t < 4; t++) r.thing(t, t, 7);
        // POINTS with the higher NUMBER as x, and as y
        r.step(4, POINT, 3, 0);
        r.thing(3, 4, 7);
        r.step(5, POINT, 0, 2);
        r.thing(2, 5, 7);
        r.step(6, POINT, 0, 0);
        r.thing(0, 6, 7);
        // x = 2 through (2, s) and (2, 2); the CIRCLE round (2, 2) through (2, s) has s alone
        r.step(7, LINE, 5, 6);
        r.thing(0, 7, 7);
        r.step(8, CIRCLE, 6, 5);
        r.thing(2, 8, 7);
        r.step(9, CIRCLE, 5, 5);
        r.thing(2, 9, 7);
        // y = 2 through (t, 2) and (2, 2); x = t
        r.step(10, LINE, 4, 6);
        r.thing(0, 10, 7);
        r.step(11, SQUARE_UP, 10, 4);
        r.thing(3, 11, 7);
    }

    private static void noSuchThingOrWhat() {
        Run r = everySort();
        int[] none = {LEAST, -1, 6, 59, 60, MOST};
        int[] others = {LEAST, -1, 8, 9, MOST};
        for (int t : none) for (int what = -1; what <= 8; what++) r.thing(BAD, t, what);
        for (int t = 0; t < 6; t++) for (int what : others) r.thing(NONE, t, what);
        r.back(5);
        r.thing(BAD, 5, 0);
        r.thing(2, 4, 0);
    }

    private static void coordinatesBeyond() {
        Run r = Run.over(5, 2);
        for (int j = 1; j < 8; j++) r.coordinate(0, 0, 0, j);
        for (int t = 1; t <= 3; t++) {
            r.step(t, ROOT, t - 1);
            for (int j = 0; j < 8; j++) r.coordinate(j == 1 << t - 1 ? 1 : 0, t, 0, j);
            r.coordinate(2, 0, 0, 0);
            for (int j = 1; j < 8; j++) r.coordinate(0, 0, 0, j);
        }
        int[] places = {LEAST, -1, 8, 9, MOST};
        for (int j : places) for (int t = 0; t < 4; t++) r.coordinate(BAD, t, 0, j);
        // made anew, taken back: none of what was higher is left
        r.prime(4, 11);
        r.prime(4, 5);
        r.back(3);
        r.step(3, GIVEN, 4);
        r.row(3, 0, 4);
    }

    private static void numbersBeyond() {
        Run r = everySort();
        int[] many = {1, 1, 2, 2, 3, 3};
        int[] none = {LEAST, -1, 3, 4, MOST};
        for (int t = 0; t < 6; t++) {
            for (int i : none) r.coordinate(BAD, t, i, 0);
            for (int i = many[t]; i < 3; i++) for (int j = 0; j < 8; j++) r.coordinate(BAD, t, i, j);
        }
        r.residues(1, 1);
        r.residues(2, 0, 1);
        // y = 1; round (0, 1) of span 1
        r.residues(4, 0, 1, 6);
        r.residues(5, 0, 1, 1);
        int[] things = {LEAST, -1, 6, 60, MOST};
        for (int t : things) for (int i = 0; i < 3; i++) r.coordinate(BAD, t, i, 0);
    }

    private static void baseCoordinates() {
        Run r = Run.tall();
        r.baseRow(0, 2);
        r.baseRow(1, 0, 1);
        r.baseRow(2, 0, 0, 1);
        int[] places = {LEAST, -1, 4, 5, 7, MOST};
        for (int k = 0; k < 3; k++) for (int j : places) r.base(BAD, k, j);
        // one that has all four: (1 + r)(1 + s) is a SQUARE, so it is none times s, which is none
        r.back(3);
        r.step(3, GIVEN, 1);
        r.step(4, SUM, 3, 1);
        r.step(5, SUM, 3, 2);
        r.step(6, TIMES, 4, 5);
        r.row(6, 0, 1, 1, 1, 1);
        r.square(1, 6, 2);
        r.step(7, TIMES, 6, 2);
        r.row(7, 0, 2, 1, 1, 1);
        r.step(8, ROOT, 7);
        r.baseRow(2, 2, 1, 1, 1);
    }

    private static void baseAtTheHeight() {
        Run r = Run.over(5, 2);
        for (int height = 0; height <= 3; height++) {
            if (height > 0) r.step(height, ROOT, height - 1);
            int[] none = {LEAST, -1, height, height + 1, 3, 4, MOST};
            for (int k : none) for (int j = 0; j < 4; j++) r.base(BAD, k, j);
            for (int k = 0; k < height; k++) r.base(k == 0 ? 2 : 0, k, 0);
        }
        // what was taken back, or is not grown over another prime, is no BASE
        r.back(3);
        r.base(BAD, 2, 0);
        r.base(1, 1, 1);
        r.prime(3, 17);
        // over 17 the ROOT of 2 is 6, and 6 is no SQUARE
        r.base(6, 0, 0);
        r.base(BAD, 1, 0);
    }

    // ---- promises 9 to 18

    private static void one() {
        Run r = everySort();
        for (int s = 0; s < 6; s++) for (int t = 0; t < 6; t++) r.one(s == t ? 1 : 0, s, t);
        r.step(6, GIVEN, 8);
        r.one(1, 1, 6);
        r.step(7, POINT, 0, 6);
        r.one(1, 7, 2);
        r.step(8, LINE, 3, 2);
        r.one(1, 8, 4);
        r.step(9, AROUND, 2, 3, 2);
        r.one(1, 9, 5);
        int[] none = {LEAST, -1, 10, 60, MOST};
        for (int t : none) {
            r.one(BAD, t, 0);
            r.one(BAD, 0, t);
            r.one(BAD, t, t);
        }
        // over 5 1 and 8 are two
        r.prime(10, 5);
        r.one(0, 1, 6);
    }

    private static void on() {
        Run r = everySort();
        r.on(1, 2, 4);
        r.on(1, 3, 4);
        r.on(0, 2, 5);
        r.on(1, 3, 5);
        r.step(6, POINT, 0, 0);
        r.on(0, 6, 4);
        r.on(1, 6, 5);
        int[] noPoint = {LEAST, -1, 0, 4, 5, 7, 60, MOST};
        for (int p : noPoint) {
            r.on(BAD, p, 4);
            r.on(BAD, p, 5);
        }
        int[] noCurve = {LEAST, -1, 0, 2, 3, 7, 60, MOST};
        for (int t : noCurve) r.on(BAD, 2, t);
        // an upright LINE; a CIRCLE of span 0
        r.step(7, LINE, 6, 2);
        r.on(1, 6, 7);
        r.on(0, 3, 7);
        r.step(8, CIRCLE, 6, 6);
        r.on(1, 6, 8);
        r.on(0, 2, 8);
    }

    private static void way() {
        // over 5: y = 2 x is square to itself and to what goes as it does; so is y = 3 x; over 7 it is not
        Run r = Run.over(5, 0, 1, 2);
        r.step(3, POINT, 0, 0);
        r.step(4, POINT, 1, 2);
        r.step(5, POINT, 1, 0);
        r.step(6, LINE, 3, 4);
        r.step(7, ALONG, 6, 5);
        r.step(8, LINE, 3, 5);
        r.step(9, LINE, 4, 5);
        r.step(10, ALONG, 8, 4);
        r.step(11, ALONG, 9, 3);
        r.step(12, CIRCLE, 3, 5);
        r.way(2, 6, 6);
        r.way(2, 6, 7);
        r.way(2, 7, 6);
        r.way(0, 6, 8);
        r.way(0, 9, 6);
        r.way(2, 8, 9);
        r.way(1, 8, 8);
        r.way(1, 8, 10);
        r.way(1, 9, 9);
        r.way(1, 11, 9);
        r.way(2, 10, 11);
        int[] none = {LEAST, -1, 0, 3, 12, 13, 60, MOST};
        for (int l : none) {
            r.way(BAD, l, 6);
            r.way(BAD, 6, l);
        }
        r.prime(13, 7);
        r.way(1, 6, 6);
        r.way(1, 6, 7);
        // y = -x and x = 1, both with a 1, meet
        r.step(13, GIVEN, -1);
        r.step(14, POINT, 1, 13);
        r.step(15, LINE, 3, 14);
        r.way(0, 15, 9);
        r.way(0, 9, 15);
    }

    private static void squaresOfSmallPrimes() {
        int[] primes = {3, 5, 7, 11, 13, 17};
        for (int p : primes) {
            boolean[] squares = new boolean[p];
            for (int x = 0; x < p; x++) squares[x * x % p] = true;
            Run r = Run.over(p);
            for (int v = 0; v < p; v++) r.step(v, GIVEN, v);
            for (int v = 0; v < p; v++) r.square(squares[v] ? 1 : 0, v, 0);
        }
        // what is a NUMBER of k is a SQUARE at k + 1 in any case
        Run r = Run.tall();
        for (int t = 0; t < 4; t++) {
            r.square(0, t, t);
            for (int k = t + 1; k <= 3; k++) r.square(1, t, k);
        }
    }

    private static void squareBeyond() {
        Run r = Run.over(5, 2, 0);
        r.step(2, ROOT, 0);
        r.step(3, POINT, 0, 0);
        r.step(4, POINT, 1, 1);
        r.step(5, LINE, 3, 4);
        r.step(6, CIRCLE, 3, 4);
        // the HEIGHT is 1: a NUMBER of LEVEL 0, 0 itself, and r
        int[] ks = {LEAST, -1, 2, 3, 4, MOST};
        for (int k : ks) {
            r.square(BAD, 0, k);
            r.square(BAD, 1, k);
            r.square(BAD, 2, k);
        }
        r.square(0, 0, 0);
        r.square(1, 0, 1);
        r.square(1, 1, 0);
        r.square(1, 1, 1);
        r.square(BAD, 2, 0);
        r.square(0, 2, 1);
        int[] none = {LEAST, -1, 3, 5, 6, 7, MOST};
        for (int t : none) r.square(BAD, t, 1);
        Run high = Run.tall();
        for (int t = 0; t < 4; t++) {
            high.square(BAD, t, t - 1);
            high.square(t < 3 ? 1 : 0, t, 3);
            high.square(BAD, t, 4);
        }
        // HEIGHT 0
        r = Run.over(5, 2);
        r.square(0, 0, 0);
        r.square(BAD, 0, 1);
    }

    private static void degree() {
        Run r = Run.tall();
        for (int t = 0; t < 4; t++) r.degree(1 << t, t);
        r.step(4, LESS, 3, 3);
        r.degree(1, 4);
        r.step(5, TIMES, 3, 3);
        r.degree(4, 5);
        r.step(6, SUM, 0, 3);
        r.degree(8, 6);
        r.step(7, POINT, 0, 0);
        r.step(8, POINT, 0, 4);
        r.step(9, LINE, 7, 8);
        r.step(10, CIRCLE, 7, 8);
        int[] none = {LEAST, -1, 7, 9, 10, 11, MOST};
        for (int t : none) r.degree(BAD, t);
    }

    private static void beyondTheDegree() {
        Run r = Run.tall();
        for (int t = 0; t < 4; t++) {
            int degree = 1 << t;
            r.coefficient(1, t, degree);
            for (int i = degree + 1; i < 12; i++) r.coefficient(0, t, i);
            r.coefficient(0, t, MOST);
        }
        r.step(4, GIVEN, 0);
        r.coefficient(0, 4, 0);
        r.coefficient(1, 4, 1);
        r.coefficient(0, 4, 2);
        r.coefficient(0, 4, 8);
    }

    private static void coefficientBelow() {
        Run r = Run.tall();
        int[] below = {LEAST, -8, -1};
        for (int t = 0; t < 4; t++) {
            for (int i : below) r.coefficient(BAD, t, i);
            r.coefficient(3, t, 0);
        }
        r.step(4, POINT, 0, 0);
        int[] none = {LEAST, -1, 4, 5, MOST};
        for (int t : none) {
            r.coefficient(BAD, t, 0);
            r.coefficient(BAD, t, 100);
            r.coefficient(BAD, t, -1);
        }
    }

    private static void conjugateItself() {
        Run r = Run.tall();
        r.step(4, GIVEN, 1);
        for (int t = 5; t <= 7; t++) r.step(t, SUM, 4, t - 4);
        r.step(8, TIMES, 5, 6);
        r.step(9, TIMES, 8, 7);
        r.step(10, SUM, 9, 3);
        // all COORDINATES, from 0 to 7; one beyond is none
        int[] want = {1, 1, 1, 1, 2, 1, 1, 1};
        for (int j = 0; j < 8; j++) {
            r.conjugate(want[j], 10, 0, j);
            r.conjugate(j == 0 ? 2 : 0, 0, 0, j);
        }
        int[] places = {LEAST, -1, 8, 9, MOST};
        for (int j : places) {
            r.conjugate(BAD, 10, 0, j);
            r.conjugate(BAD, 10, 7, j);
            r.conjugate(BAD, 0, 0, j);
        }
        // the first COORDINATE is that of 1, which is its own P-th power
        for (int i = 0; i < 8; i++) r.conjugate(1, 10, i, 0);
    }

    private static void conjugateBelow() {
        Run r = Run.tall();
        int[] below = {LEAST, -8, -1};
        for (int t = 0; t < 4; t++) for (int i : below) r.conjugate(BAD, t, i, 0);
        r.step(4, POINT, 0, 0);
        int[] none = {LEAST, -1, 4, 5, MOST};
        for (int t : none) {
            r.conjugate(BAD, t, 0, 0);
            r.conjugate(BAD, t, 9, 0);
            r.conjugate(BAD, t, -1, 0);
        }
        // both wrong: a place that is none, and a conjugate that is none
        r.conjugate(BAD, 0, 1, 8);
        r.conjugate(BAD, 0, 1, -1);
    }

    private static void conjugateBeyond() {
        Run r = Run.tall();
        r.step(4, GIVEN, 0);
        int[] many = {1, 2, 4, 8, 1};
        for (int t = 0; t < 5; t++) {
            int[] beyond = {many[t], many[t] + 1, 8, 9, MOST};
            for (int i : beyond) for (int j = 0; j < 8; j += 7) r.conjugate(NONE, t, i, j);
        }
        // the last that there is: 2; -r; 3 s; 2 r t
        r.conjugate(2, 0, 0, 0);
        r.conjugate(4, 1, 1, 1);
        r.conjugate(3, 2, 3, 2);
        r.conjugate(2, 3, 7, 5);
        r.conjugate(0, 4, 0, 0);
    }

    private static void orderOfZero() {
        Run r = Run.tall();
        r.step(4, GIVEN, 0);
        r.step(5, GIVEN, 5);
        r.step(6, LESS, 3, 3);
        for (int t = 4; t <= 6; t++) r.order(ZERO, t);
        r.step(7, POINT, 4, 4);
        r.step(8, POINT, 0, 4);
        r.step(9, LINE, 7, 8);
        r.step(10, CIRCLE, 7, 7);
        int[] none = {LEAST, -1, 7, 9, 10, 11, 60, MOST};
        for (int t : none) r.order(BAD, t);
        // what begins with 0 and is not 0 has one: 8, 16, 32
        for (int t = 1; t <= 3; t++) r.order(4 << t, t);
    }

    private static void orderAbove() {
        // 3 is a primitive root of 4001; 64 has the order 4001 over 24007, and 2 has 4002 over 4003
        Run.over(4001, 3).order(4000, 0);
        Run.over(24007, 64).order(NONE, 0);
        Run.over(4003, 2).order(NONE, 0);
        Run r = Run.over(32749, 2, 4, -1, 1);
        r.order(NONE, 0);
        r.order(NONE, 1);
        r.order(2, 2);
        r.order(1, 3);
        // over 3 at HEIGHT 3: 1 + t has the order 3280, t (1 + t) all 6560 that there can be, and its square again 3280
        r = Run.over(3, 2, 1);
        r.step(2, ROOT, 0);
        r.step(3, SUM, 1, 2);
        r.step(4, ROOT, 3);
        r.step(5, ROOT, 4);
        r.step(6, SUM, 5, 1);
        r.step(7, TIMES, 6, 5);
        r.step(8, TIMES, 7, 7);
        r.order(3280, 6);
        r.order(NONE, 7);
        r.order(3280, 8);
    }

    private static void cornersFirst() {
        // 17 - 1 = 16, 288, 83520, ..
        Run r = Run.over(17);
        int[][] want = {{3, 1}, {4, 0}, {8, 0}, {16, 0}, {9, 1}, {32, 1}, {288, 1}, {5, 2}, {29, 2}, {64, 2}, {128, 3}, {41761, 3}};
        for (int[] row : want) r.corners(row[1], row[0]);
        r = new Run();
        int[][] of3 = {{4, 1}, {8, 1}, {5, 2}, {10, 2}, {16, 2}, {80, 2}, {32, 3}, {41, 3}, {6560, 3}};
        for (int[] row : of3) r.corners(row[1], row[0]);
        r = Run.over(32749);
        r.corners(0, 32748);
        r.corners(1, 32750);
        r.corners(1, 32748 * 32750);
    }

    private static void cornersAtNone() {
        Run r = new Run();
        int[] none = {3, 6, 7, 9, 64, 6559, 6561, 13120, MOST - 1, MOST};
        for (int n : none) r.corners(NONE, n);
        r = Run.over(17);
        int[] of17 = {7, 17, 34, 256, 289, MOST};
        for (int n : of17) r.corners(NONE, n);
        r = Run.over(32749);
        r.corners(NONE, 32749);
        r.corners(NONE, 32748 * 32750 - 2);
        r.corners(NONE, MOST);
    }

    private static void cornersBelow() {
        Run r = Run.over(7);
        int[] below = {LEAST, -7, -3, -1, 0, 1, 2};
        for (int n : below) r.corners(BAD, n);
        r.corners(0, 3);
    }

    private static void counts() {
        Run r = everySort();
        int[] want = {6, 0, 7, 2, 2, 2, 1, 1};
        for (int what = 0; what < 8; what++) r.count(want[what], what);
        for (int t = 5; t >= 0; t--) r.back(t);
        int[] left = {0, 0, 7, 0, 0, 0, 0, 0};
        for (int what = 0; what < 8; what++) r.count(left[what], what);
        // 60 THINGS: 58 of them have a price
        r = Run.over(7, 0);
        r.step(1, POINT, 0, 0);
        for (int t = 2; t < 60; t++) r.step(t, CIRCLE, 1, 1);
        int[] full = {60, 0, 7, 58, 1, 1, 0, 58};
        for (int what = 0; what < 8; what++) r.count(full[what], what);
        Run high = Run.tall();
        high.count(3, 1);
        high.count(6, 3);
        high.prime(4, 32749);
        high.count(32749, 2);
    }

    private static void countBeyond() {
        Run r = everySort();
        int[] none = {LEAST, -2, -1, 8, 9, MOST};
        for (int what : none) r.count(BAD, what);
        for (int what : none) new Run().count(BAD, what);
    }
}
