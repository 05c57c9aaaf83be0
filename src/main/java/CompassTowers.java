/**
 * A compass house over a prime: NUMBERS in a tower of square roots, POINTS, LINES and CIRCLES with them,
 * made by STEPS that can be priced, taken back and made anew over another prime.
 *
 * All rows are made with the object and used again, because nothing that a call makes is ever given back.
 */
public final class CompassTowers {
    public static final int BAD = -1, ZERO = -2, SAME = -3, MISSES = -4, HIGH = -5, FULL = -6, NONE = -7;

    private static final int FIRST_PRIME = 3, LAST_PRIME = 32749;
    private static final int MOST_THINGS = 60, MOST_REMAKINGS = 12, MOST_ORDER = 4000;
    private static final int REFUSED_STEP = -20;

    /** The greatest HEIGHT, how many COORDINATES a NUMBER has there, and how many a BASE may have. */
    private static final int TOP = 3, WIDE = 8, BASE_WIDE = 4;

    private static final int NO_SORT = -1, NUMBER = 0, POINT = 1, LINE = 2, CIRCLE = 3;
    /** No THING has more NUMBERS, and no STEP is told more numbers. */
    private static final int ROWS = 3;

    private static final int GIVEN = 0, SUM = 1, LESS = 2, TIMES = 3, OVER = 4, ROOT = 5, POINT_OF = 6,
            LINE_THROUGH = 7, CIRCLE_THROUGH = 8, AROUND = 9, SQUARE_UP = 10, ALONG = 11, MEET = 12, PART = 13;

    private final Steps steps = new Steps();
    private final Facts facts = new Facts();
    private House now = new House();
    private House spare = new House();
    private int remakings = 0;
    private int reason = 0;

    public CompassTowers() {
    }

    public int prime(int p) {
        if (!isOddPrime(p)) {
            return BAD;
        }
        if (remakings >= MOST_REMAKINGS) {
            return FULL;
        }
        remakings++;
        spare.tower.begin(p);
        for (int t = 0; t < steps.size; t++) {
            int refusal = spare.make(t, steps);
            if (refusal != 0) {
                reason = refusal;
                return REFUSED_STEP - t;
            }
        }
        House old = now;
        now = spare;
        spare = old;
        return steps.size;
    }

    public int why() {
        return reason;
    }

    public int step(int kind, int a, int b, int c) {
        if (!steps.allow(kind, a, b, c)) {
            return BAD;
        }
        if (steps.size >= MOST_THINGS) {
            return FULL;
        }
        int t = steps.size;
        steps.write(kind, a, b, c);
        int refusal = now.make(t, steps);
        if (refusal != 0) {
            return refusal;
        }
        steps.size = t + 1;
        return t;
    }

    public int back() {
        if (steps.size <= 0) {
            return NONE;
        }
        steps.size--;
        now.unmake(steps.size);
        return steps.size;
    }

    public int thing(int t, int what) {
        if (!steps.has(t)) {
            return BAD;
        }
        switch (what) {
            case 0:
                return steps.sortOf(t);
            case 1:
                return steps.kindOf(t);
            case 2:
            case 3:
            case 4:
                return steps.toldOf(t, what - 2);
            case 5:
                return priceOf(t);
            case 6:
                return now.growthBy(t);
            case 7:
                return now.greatestLevel(t, steps.rowsOf(t));
            default:
                return NONE;
        }
    }

    public int coordinate(int t, int i, int j) {
        if (i < 0 || i >= steps.rowsOf(t) || j < 0 || j >= WIDE) {
            return BAD;
        }
        return now.row(t, i)[j];
    }

    public int base(int k, int j) {
        if (k < 0 || k >= now.tower.height || k >= TOP || j < 0 || j >= BASE_WIDE) {
            return BAD;
        }
        return now.tower.bases[k][j];
    }

    public int one(int s, int t) {
        if (!steps.has(s) || !steps.has(t)) {
            return BAD;
        }
        return steps.sortOf(s) == steps.sortOf(t) && now.agree(s, t, steps.rowsOf(s)) ? 1 : 0;
    }

    public int on(int p, int t) {
        int sort = steps.sortOf(t);
        if (steps.sortOf(p) != POINT || sort != LINE && sort != CIRCLE) {
            return BAD;
        }
        boolean lies = sort == LINE ? now.isOnLine(p, t) : now.isOnCircle(p, t);
        return lies ? 1 : 0;
    }

    public int way(int l, int m) {
        if (steps.sortOf(l) != LINE || steps.sortOf(m) != LINE) {
            return BAD;
        }
        if (now.areSquare(l, m)) {
            return 2;
        }
        return now.agree(l, m, 2) ? 1 : 0;
    }

    public int square(int t, int k) {
        if (steps.sortOf(t) != NUMBER) {
            return BAD;
        }
        int[] number = now.row(t, 0);
        if (k > now.tower.height || k < now.tower.levelOf(number)) {
            return BAD;
        }
        return now.tower.isSquareAt(number, k) ? 1 : 0;
    }

    public int degree(int t) {
        if (steps.sortOf(t) != NUMBER) {
            return BAD;
        }
        return now.tower.degreeOf(now.row(t, 0));
    }

    public int coefficient(int t, int i) {
        if (steps.sortOf(t) != NUMBER || i < 0) {
            return BAD;
        }
        int[] number = now.row(t, 0);
        if (i > now.tower.degreeOf(number)) {
            return 0;
        }
        return facts.leastCoefficient(now.tower, number, i);
    }

    public int conjugate(int t, int i, int j) {
        if (steps.sortOf(t) != NUMBER || i < 0 || j < 0 || j >= WIDE) {
            return BAD;
        }
        int[] number = now.row(t, 0);
        if (i >= now.tower.degreeOf(number)) {
            return NONE;
        }
        return facts.imageOf(now.tower, number, i)[j];
    }

    public int order(int t) {
        if (steps.sortOf(t) != NUMBER) {
            return BAD;
        }
        int[] number = now.row(t, 0);
        return now.tower.isZero(number) ? ZERO : facts.leastPowerToOne(now.tower, number);
    }

    public int corners(int n) {
        return n < 3 ? BAD : Facts.firstHeight(now.tower.modulus, n);
    }

    public int count(int what) {
        switch (what) {
            case 0:
                return steps.size;
            case 1:
                return now.tower.height;
            case 2:
                return now.tower.modulus;
            case 3:
                return allPrices();
            case 4:
            case 5:
            case 6:
            case 7:
                return steps.howManyOf(what - 4);
            default:
                return BAD;
        }
    }

    private int priceOf(int t) {
        int kind = steps.kindOf(t);
        if (kind >= LINE_THROUGH && kind <= ALONG) {
            return 1;
        }
        if (now.growthBy(t) == 0) {
            return 0;
        }
        return kind == MEET ? 3 : 2;
    }

    private int allPrices() {
        int together = 0;
        for (int t = 0; t < steps.size; t++) {
            together += priceOf(t);
        }
        return together;
    }

    private static boolean isOddPrime(int p) {
        if (p < FIRST_PRIME || p > LAST_PRIME || p % 2 == 0) {
            return false;
        }
        for (int d = 3; d * d <= p; d += 2) {
            if (p % d == 0) {
                return false;
            }
        }
        return true;
    }

    /** All STEPS that stand, as they were told: these outlast a change of the prime. */
    private static final class Steps {
        private static final int[] SORT_OF_KIND = {
            NUMBER, NUMBER, NUMBER, NUMBER, NUMBER, NUMBER, POINT,
            LINE, CIRCLE, CIRCLE, LINE, LINE, POINT, NUMBER};
        private static final int[] ROWS_OF_SORT = {1, 2, 3, 3};

        /** What a STEP may be told: a THING of one of some sorts (a bit for each), or one of these. */
        private static final int N = 1, P = 2, L = 4, C = 8, NOTHING = 0, WHOLE = 16, PLACE = 32;
        private static final int[] TELLS = {
            WHOLE, NOTHING, NOTHING,
            N, N, NOTHING,
            N, N, NOTHING,
            N, N, NOTHING,
            N, N, NOTHING,
            N, NOTHING, NOTHING,
            N, N, NOTHING,
            P, P, NOTHING,
            P, P, NOTHING,
            P, P, P,
            L, P, NOTHING,
            L, P, NOTHING,
            L + C, L + C, PLACE,
            P + L + C, PLACE, NOTHING};

        int size = 0;
        private final int[] kinds = new int[MOST_THINGS];
        private final int[] told = new int[MOST_THINGS * ROWS];

        boolean has(int t) {
            return t >= 0 && t < size;
        }

        int kindOf(int t) {
            return t >= 0 && t < MOST_THINGS ? kinds[t] : GIVEN;
        }

        int toldOf(int t, int i) {
            return t >= 0 && t < MOST_THINGS && i >= 0 && i < ROWS ? told[ROWS * t + i] : 0;
        }

        int sortOf(int t) {
            return has(t) ? SORT_OF_KIND[kinds[t]] : NO_SORT;
        }

        /** How many NUMBERS a THING has; 0 where there is no such THING. */
        int rowsOf(int t) {
            return has(t) ? ROWS_OF_SORT[SORT_OF_KIND[kinds[t]]] : 0;
        }

        int howManyOf(int sort) {
            int many = 0;
            for (int t = 0; t < size; t++) {
                if (sortOf(t) == sort) {
                    many++;
                }
            }
            return many;
        }

        boolean allow(int kind, int a, int b, int c) {
            if (kind < GIVEN || kind > PART) {
                return false;
            }
            int places = kind == PART ? rowsOf(a) : 2;
            return fits(TELLS[ROWS * kind], a, places)
                    && fits(TELLS[ROWS * kind + 1], b, places)
                    && fits(TELLS[ROWS * kind + 2], c, places);
        }

        private boolean fits(int tells, int number, int places) {
            if (tells == NOTHING || tells == WHOLE) {
                return true;
            }
            if (tells == PLACE) {
                return number >= 0 && number < places;
            }
            return has(number) && (tells >> sortOf(number) & 1) == 1;
        }

        /** Writes an allowed STEP behind the last one; it stands as soon as the size counts it. */
        void write(int kind, int a, int b, int c) {
            if (size >= MOST_THINGS || kind < GIVEN || kind > PART) {
                return;
            }
            int first = ROWS * size;
            kinds[size] = kind;
            told[first] = a;
            told[first + 1] = TELLS[ROWS * kind + 1] == NOTHING ? 0 : b;
            told[first + 2] = TELLS[ROWS * kind + 2] == NOTHING ? 0 : c;
        }
    }

    /** THE TOWER over one prime, and how its NUMBERS are reckoned; an answer's row may be one of those it is made from. */
    private static final class Tower {
        /** By what two units have in common: how many COORDINATES their product may have in a row. */
        private static final int[] SPANS = {1, 1, 2, 2, 4, 4, 4, 4};

        int modulus = FIRST_PRIME;
        int height = 0;
        final int[][] bases = new int[TOP][WIDE];
        /** Unit i has COORDINATE i 1, others 0; a product of two is kept from its first place on that may not be 0. */
        private final int[] unitProducts = new int[WIDE * WIDE * BASE_WIDE];
        private final long[] sums = new long[WIDE];
        private final int[] norm = new int[WIDE];
        private final int[] mirrored = new int[WIDE];
        private final int[] inverse = new int[WIDE];
        private final int[] factor = new int[WIDE];
        private final int[][] rootRows = new int[3 * (TOP + 1)][WIDE];
        /** The prime less 1 is this odd number times 2 so often; and a RESIDUE whose order is that power of 2. */
        private int oddPart = 1;
        private int twos = 1;
        private int turner = 2;

        Tower() {
            for (int i = 0; i < WIDE; i++) {
                for (int j = 0; j < WIDE; j++) {
                    if ((i & j) == 0) {
                        unitProducts[(i * WIDE + j) * BASE_WIDE] = 1;
                    }
                }
            }
        }

        void begin(int prime) {
            modulus = Math.max(prime, FIRST_PRIME);
            height = 0;
            twos = Integer.numberOfTrailingZeros(modulus - 1);
            oddPart = (modulus - 1) >> twos;
            int noSquare = 2;
            while (noSquare < modulus - 1 && power(noSquare, (modulus - 1) / 2) == 1) {
                noSquare++;
            }
            turner = power(noSquare, oddPart);
        }

        /** A RESIDUE's power. */
        private int power(int residue, int exponent) {
            int result = 1;
            int square = residue;
            for (int e = exponent; e > 0; e >>= 1) {
                if ((e & 1) == 1) {
                    result = result * square % modulus;
                }
                square = square * square % modulus;
            }
            return result;
        }

        void setResidue(int whole, int[] out) {
            setUnit(0, out);
            out[0] = Math.floorMod(whole, modulus);
        }

        private void setUnit(int unit, int[] out) {
            for (int i = 0; i < WIDE; i++) {
                out[i] = i == unit ? 1 : 0;
            }
        }

        void copy(int[] x, int[] out) {
            for (int i = 0; i < WIDE; i++) {
                out[i] = x[i];
            }
        }

        boolean isZero(int[] x) {
            for (int i = 0; i < WIDE; i++) {
                if (x[i] != 0) {
                    return false;
                }
            }
            return true;
        }

        boolean isResidue(int[] x, int residue) {
            return x[0] == residue && levelOf(x) == 0;
        }

        boolean areSame(int[] x, int[] y) {
            for (int i = 0; i < WIDE; i++) {
                if (x[i] != y[i]) {
                    return false;
                }
            }
            return true;
        }

        int levelOf(int[] x) {
            int level = 0;
            for (int i = 1; i < WIDE; i++) {
                if (x[i] != 0) {
                    level = 32 - Integer.numberOfLeadingZeros(i);
                }
            }
            return level;
        }

        /** NUMBERS of k are the one subfield of its size, and these lie each in the next: so a LEVEL tells the degree. */
        int degreeOf(int[] x) {
            return 1 << levelOf(x);
        }

        void add(int[] x, int[] y, int[] out) {
            for (int i = 0; i < WIDE; i++) {
                int sum = x[i] + y[i];
                out[i] = sum >= modulus ? sum - modulus : sum;
            }
        }

        void subtract(int[] x, int[] y, int[] out) {
            for (int i = 0; i < WIDE; i++) {
                int rest = x[i] - y[i];
                out[i] = rest < 0 ? rest + modulus : rest;
            }
        }

        void negate(int[] x, int[] out) {
            for (int i = 0; i < WIDE; i++) {
                out[i] = x[i] == 0 ? 0 : modulus - x[i];
            }
        }

        void scale(int[] x, int residue, int[] out) {
            for (int i = 0; i < WIDE; i++) {
                out[i] = x[i] * residue % modulus;
            }
        }

        void multiply(int[] x, int[] y, int[] out) {
            int width = 1 << height;
            for (int i = 0; i < WIDE; i++) {
                sums[i] = 0;
            }
            for (int i = 0; i < width; i++) {
                for (int j = 0; j < width && x[i] != 0; j++) {
                    int weight = x[i] * y[j] % modulus;
                    int span = SPANS[i & j];
                    int start = (i ^ j) & -span;
                    int kept = (i * WIDE + j) * BASE_WIDE;
                    for (int m = 0; m < span && weight != 0; m++) {
                        sums[start + m] += weight * unitProducts[kept + m];
                    }
                }
            }
            for (int i = 0; i < WIDE; i++) {
                out[i] = (int) (sums[i] % modulus);
            }
        }

        /** x to a power above 0 or 0. */
        void raise(int[] x, int exponent, int[] out) {
            copy(x, factor);
            setUnit(0, out);
            for (int e = exponent; e > 0; e >>= 1) {
                if ((e & 1) == 1) {
                    multiply(out, factor, out);
                }
                if (e > 1) {
                    multiply(factor, factor, factor);
                }
            }
        }

        /** Of a NUMBER a + b r of k, a - b r. */
        void mirror(int[] x, int k, int[] out) {
            int from = k > 0 ? 1 << k - 1 : WIDE;
            for (int i = 0; i < WIDE; i++) {
                out[i] = i >= from && x[i] != 0 ? modulus - x[i] : x[i];
            }
        }

        /** 1 / x; 0 for 0. */
        void invert(int[] x, int[] out) {
            copy(x, norm);
            setUnit(0, inverse);
            // a + b r times a - b r is one level lower: in the end there is a RESIDUE to divide by
            for (int k = height; k > 0; k--) {
                mirror(norm, k, mirrored);
                multiply(norm, mirrored, norm);
                multiply(inverse, mirrored, inverse);
            }
            scale(inverse, power(norm[0], modulus - 2), out);
        }

        void divide(int[] x, int[] y, int[] out) {
            invert(y, mirrored);
            multiply(x, mirrored, out);
        }

        /** Whether a NUMBER of k is a SQUARE at k: it is if, and only if, its norm is one a level lower. */
        boolean isSquareAt(int[] x, int k) {
            copy(x, norm);
            for (int m = k; m > 0; m--) {
                mirror(norm, m, mirrored);
                multiply(norm, mirrored, norm);
            }
            return norm[0] == 0 || power(norm[0], (modulus - 1) / 2) == 1;
        }

        /** THE ROOT of x, or, where it has none, the one by which THE TOWER GROWS: 0, or HIGH. */
        int rootOrGrow(int[] x, int[] out) {
            if (isSquareAt(x, height)) {
                rootAt(x, height, out);
                takeLesser(out);
                return 0;
            }
            if (height >= TOP) {
                return HIGH;
            }
            grow(x);
            setUnit(1 << height - 1, out);
            return 0;
        }

        private void takeLesser(int[] root) {
            int first = 0;
            while (first < WIDE - 1 && root[first] == 0) {
                first++;
            }
            if (root[first] > modulus / 2) {
                negate(root, root);
            }
        }

        private void grow(int[] base) {
            if (height >= TOP) {
                return;
            }
            copy(base, bases[height]);
            for (int i = 0; i < WIDE; i++) {
                for (int j = 0; j < WIDE; j++) {
                    if (Integer.highestOneBit(i & j) == 1 << height) {
                        layUnitProduct(i, j);
                    }
                }
            }
            height++;
        }

        /** Of two units whose highest root in common is the new one: that one's square is the new BASE. */
        private void layUnitProduct(int i, int j) {
            int width = 1 << height;
            setUnit(i & width - 1, norm);
            setUnit(j & width - 1, mirrored);
            multiply(norm, mirrored, norm);
            multiply(norm, bases[height], norm);
            int kept = (i * WIDE + j) * BASE_WIDE;
            for (int m = 0; m < width && m < BASE_WIDE; m++) {
                unitProducts[kept + m] = norm[m];
            }
        }

        /** One of the square roots of a SQUARE at k; the depth is k, 3 at most. */
        private void rootAt(int[] x, int k, int[] out) {
            if (k <= 0 || k > TOP) {
                setResidue(residueRoot(x[0]), out);
                return;
            }
            int[] low = rootRows[3 * k];
            int[] high = rootRows[3 * k + 1];
            int[] root = rootRows[3 * k + 2];
            split(x, k, low, high);
            if (!isZero(high)) {
                // (u + v r)(u + v r) = a + b r: u u is (a + n) / 2 or (a - n) / 2, n being a root of the norm
                mirror(x, k, root);
                multiply(x, root, root);
                rootAt(root, k - 1, root);
                add(low, root, root);
                scale(root, (modulus + 1) / 2, root);
                if (!isSquareAt(root, k - 1)) {
                    subtract(low, root, root);
                }
                rootAt(root, k - 1, root);
                scale(root, 2, low);
                invert(low, low);
                multiply(high, low, high);
                join(root, high, k, out);
            } else if (isSquareAt(low, k - 1)) {
                rootAt(low, k - 1, out);
            } else {
                // no SQUARE lower, thus the BASE times one
                invert(bases[k - 1], root);
                multiply(low, root, root);
                rootAt(root, k - 1, root);
                join(high, root, k, out);
            }
        }

        private void split(int[] x, int k, int[] low, int[] high) {
            int half = 1 << k - 1;
            for (int i = 0; i < WIDE; i++) {
                low[i] = i < half ? x[i] : 0;
                high[i] = i < half ? x[half + i] : 0;
            }
        }

        private void join(int[] low, int[] high, int k, int[] out) {
            int half = 1 << k - 1;
            for (int i = 0; i < WIDE; i++) {
                out[i] = i < half ? low[i] : i < 2 * half ? high[i - half] : 0;
            }
        }

        /** A square root of a RESIDUE that is a SQUARE, as Tonelli and Shanks find it. */
        private int residueRoot(int residue) {
            int root = power(residue, (oddPart + 1) / 2);
            int rest = power(residue, oddPart);
            int turn = turner;
            // root root is always the RESIDUE times the rest, and the rest's order shrinks to 1
            for (int i = twos - 2; i >= 0; i--) {
                int next = turn * turn % modulus;
                if (power(rest, 1 << i) != 1) {
                    root = root * turn % modulus;
                    rest = rest * next % modulus;
                }
                turn = next;
            }
            return root;
        }
    }

    /** All THINGS as they are over one prime. */
    private static final class House {
        /** The rows behind those of the last THING are for the LINE that two CIRCLES have in common. */
        private static final int COMMON_LINE = MOST_THINGS;

        final Tower tower = new Tower();
        private final int[][] rows = new int[ROWS * (MOST_THINGS + 1)][WIDE];
        private final int[] growths = new int[MOST_THINGS];
        private final int[] slope = new int[WIDE];
        private final int[] reach = new int[WIDE];
        private final int[] quadratic = new int[WIDE];
        private final int[] linear = new int[WIDE];
        private final int[] constant = new int[WIDE];
        private final int[] root = new int[WIDE];
        private final int[] solution = new int[WIDE];
        private final int[] term = new int[WIDE];
        private final int[] total = new int[WIDE];

        /** NUMBER i of THING t. */
        int[] row(int t, int i) {
            return t >= 0 && t <= MOST_THINGS && i >= 0 && i < ROWS ? rows[ROWS * t + i] : term;
        }

        int growthBy(int t) {
            return t >= 0 && t < MOST_THINGS ? growths[t] : 0;
        }

        int greatestLevel(int t, int many) {
            int greatest = 0;
            for (int i = 0; i < many; i++) {
                greatest = Math.max(greatest, tower.levelOf(row(t, i)));
            }
            return greatest;
        }

        /** Whether the first NUMBERS of two THINGS are the same. */
        boolean agree(int s, int t, int many) {
            for (int i = 0; i < many; i++) {
                if (!tower.areSame(row(s, i), row(t, i))) {
                    return false;
                }
            }
            return true;
        }

        boolean isOnLine(int p, int line) {
            layProductSum(line, p);
            tower.add(total, row(line, 2), total);
            return tower.isZero(total);
        }

        boolean isOnCircle(int p, int circle) {
            layDistance(p, circle, total);
            return tower.areSame(total, row(circle, 2));
        }

        boolean areSquare(int l, int m) {
            layProductSum(l, m);
            return tower.isZero(total);
        }

        /** Makes THING t as its STEP tells: 0, or what refuses it. */
        int make(int t, Steps steps) {
            if (t < 0 || t >= MOST_THINGS) {
                return FULL;
            }
            int heightAhead = tower.height;
            int kind = steps.kindOf(t);
            int refusal;
            if (kind <= ROOT) {
                refusal = makeNumber(t, kind, steps.toldOf(t, 0), steps.toldOf(t, 1));
            } else if (kind == MEET) {
                refusal = meet(t, steps);
            } else {
                refusal = makeFigure(t, kind, steps);
            }
            growths[t] = tower.height - heightAhead;
            return refusal;
        }

        void unmake(int t) {
            tower.height = Math.max(0, tower.height - growthBy(t));
        }

        private int makeNumber(int t, int kind, int a, int b) {
            int[] out = row(t, 0);
            switch (kind) {
                case GIVEN:
                    tower.setResidue(a, out);
                    return 0;
                case SUM:
                    tower.add(row(a, 0), row(b, 0), out);
                    return 0;
                case LESS:
                    tower.subtract(row(a, 0), row(b, 0), out);
                    return 0;
                case TIMES:
                    tower.multiply(row(a, 0), row(b, 0), out);
                    return 0;
                case OVER:
                    if (tower.isZero(row(b, 0))) {
                        return ZERO;
                    }
                    tower.divide(row(a, 0), row(b, 0), out);
                    return 0;
                default:
                    return tower.rootOrGrow(row(a, 0), out);
            }
        }

        /** The STEPS from POINT on, but MEET. */
        private int makeFigure(int t, int kind, Steps steps) {
            int a = steps.toldOf(t, 0);
            int b = steps.toldOf(t, 1);
            switch (kind) {
                case POINT_OF:
                    tower.copy(row(a, 0), row(t, 0));
                    tower.copy(row(b, 0), row(t, 1));
                    return 0;
                case LINE_THROUGH:
                    return makeLineThrough(t, a, b);
                case CIRCLE_THROUGH:
                    makeCircle(t, a, a, b);
                    return 0;
                case AROUND:
                    makeCircle(t, a, b, steps.toldOf(t, 2));
                    return 0;
                case SQUARE_UP:
                    tower.copy(row(a, 1), row(t, 0));
                    tower.negate(row(a, 0), row(t, 1));
                    leadThrough(t, b);
                    return 0;
                case ALONG:
                    tower.copy(row(a, 0), row(t, 0));
                    tower.copy(row(a, 1), row(t, 1));
                    leadThrough(t, b);
                    return 0;
                default:
                    tower.copy(row(a, b), row(t, 0));
                    return 0;
            }
        }

        private int makeLineThrough(int t, int p, int q) {
            if (agree(p, q, 2)) {
                return SAME;
            }
            tower.subtract(row(p, 1), row(q, 1), row(t, 0));
            tower.subtract(row(q, 0), row(p, 0), row(t, 1));
            leadThrough(t, p);
            return 0;
        }

        private void makeCircle(int t, int centre, int p, int q) {
            tower.copy(row(centre, 0), row(t, 0));
            tower.copy(row(centre, 1), row(t, 1));
            layDistance(p, q, row(t, 2));
        }

        /** Gives a LINE whose a and b are known the c with which it goes through POINT p. */
        private void leadThrough(int line, int p) {
            layProductSum(line, p);
            tower.negate(total, row(line, 2));
            tellPlainly(line);
        }

        /** Tells a LINE with b 1, or, b being 0, with a 1. */
        private void tellPlainly(int line) {
            int[] leading = tower.isZero(row(line, 1)) ? row(line, 0) : row(line, 1);
            tower.invert(leading, term);
            for (int i = 0; i < ROWS; i++) {
                tower.multiply(row(line, i), term, row(line, i));
            }
        }

        /** The first NUMBERS of two THINGS multiplied, and their second ones, together. */
        private void layProductSum(int s, int t) {
            tower.multiply(row(s, 0), row(t, 0), total);
            tower.multiply(row(s, 1), row(t, 1), term);
            tower.add(total, term, total);
        }

        /** How far two POINTS (or a CIRCLE's centre) lie apart, squared. */
        private void layDistance(int p, int q, int[] out) {
            tower.subtract(row(p, 0), row(q, 0), total);
            tower.multiply(total, total, total);
            tower.subtract(row(p, 1), row(q, 1), term);
            tower.multiply(term, term, term);
            tower.add(total, term, out);
        }

        private int meet(int t, Steps steps) {
            int g = steps.toldOf(t, 0);
            int h = steps.toldOf(t, 1);
            int i = steps.toldOf(t, 2);
            boolean firstIsLine = steps.sortOf(g) == LINE;
            boolean secondIsLine = steps.sortOf(h) == LINE;
            if (firstIsLine && secondIsLine) {
                return meetLines(t, g, h, i);
            }
            int line = firstIsLine ? g : h;
            int circle = firstIsLine ? h : g;
            if (!firstIsLine && !secondIsLine) {
                if (agree(g, h, 2)) {
                    return agree(g, h, ROWS) ? SAME : MISSES;
                }
                layCommonLine(g, h);
                line = COMMON_LINE;
            }
            layEquation(line, circle);
            int refusal = tower.isZero(quadratic) ? solveLinear(i) : solveQuadratic(i);
            if (refusal == 0) {
                placeSolution(t, line);
            }
            return refusal;
        }

        private int meetLines(int t, int l, int m, int i) {
            if (agree(l, m, 2)) {
                return agree(l, m, ROWS) ? SAME : MISSES;
            }
            if (i != 0) {
                return MISSES;
            }
            layCross(l, m, 0, 1, root);
            layCross(l, m, 1, 2, row(t, 0));
            layCross(l, m, 2, 0, row(t, 1));
            tower.divide(row(t, 0), root, row(t, 0));
            tower.divide(row(t, 1), root, row(t, 1));
            return 0;
        }

        /** NUMBER i of l times j of m, less j of l times i of m. */
        private void layCross(int l, int m, int i, int j, int[] out) {
            tower.multiply(row(l, i), row(m, j), total);
            tower.multiply(row(l, j), row(m, i), term);
            tower.subtract(total, term, out);
        }

        /** The LINE on which the equations of two CIRCLES, one less the other, are 0. */
        private void layCommonLine(int g, int h) {
            for (int i = 0; i < 2; i++) {
                tower.subtract(row(h, i), row(g, i), total);
                tower.scale(total, 2, row(COMMON_LINE, i));
            }
            layConstant(g, row(COMMON_LINE, 2));
            layConstant(h, solution);
            tower.subtract(row(COMMON_LINE, 2), solution, row(COMMON_LINE, 2));
            tellPlainly(COMMON_LINE);
        }

        /** h h + k k - s of a CIRCLE. */
        private void layConstant(int circle, int[] out) {
            layProductSum(circle, circle);
            tower.subtract(total, row(circle, 2), out);
        }

        /** The equation of t; an upright LINE is one of slope 0 on which x and y have changed places. */
        private void layEquation(int line, int circle) {
            boolean upright = tower.isZero(row(line, 1));
            int[] along = row(circle, upright ? 1 : 0);
            int[] across = row(circle, upright ? 0 : 1);
            tower.setResidue(0, slope);
            if (!upright) {
                tower.copy(row(line, 0), slope);
            }
            tower.add(row(line, 2), across, reach);
            tower.setResidue(1, term);
            tower.multiply(slope, slope, quadratic);
            tower.add(quadratic, term, quadratic);
            tower.multiply(slope, reach, linear);
            tower.subtract(linear, along, linear);
            tower.scale(linear, 2, linear);
            tower.multiply(along, along, constant);
            tower.multiply(reach, reach, term);
            tower.add(constant, term, constant);
            tower.subtract(constant, row(circle, 2), constant);
        }

        /** Solution i of the equation, A being 0: 0, or what refuses it. */
        private int solveLinear(int i) {
            if (tower.isZero(linear)) {
                return tower.isZero(constant) ? SAME : MISSES;
            }
            if (i != 0) {
                return MISSES;
            }
            tower.divide(constant, linear, solution);
            tower.negate(solution, solution);
            return 0;
        }

        /** Solution i of the equation, A not being 0: 0, or what refuses it. */
        private int solveQuadratic(int i) {
            tower.multiply(quadratic, constant, term);
            tower.scale(term, 4 % tower.modulus, term);
            tower.multiply(linear, linear, total);
            tower.subtract(total, term, total);
            if (tower.isZero(total) && i != 0) {
                return MISSES;
            }
            int refusal = tower.rootOrGrow(total, root);
            if (refusal != 0) {
                return refusal;
            }
            if (i == 0) {
                tower.negate(root, root);
            }
            tower.subtract(root, linear, solution);
            tower.scale(quadratic, 2, term);
            tower.divide(solution, term, solution);
            return 0;
        }

        private void placeSolution(int t, int line) {
            boolean upright = tower.isZero(row(line, 1));
            int[] along = row(t, upright ? 1 : 0);
            int[] across = row(t, upright ? 0 : 1);
            tower.copy(solution, along);
            tower.multiply(slope, solution, across);
            tower.add(across, row(line, 2), across);
            tower.negate(across, across);
        }
    }

    /** What a NUMBER is a root of, its CONJUGATES and its ORDER. */
    private static final class Facts {
        private final int[][] polynomial = new int[WIDE + 1][WIDE];
        private final int[][] left = new int[WIDE / 2 + 1][WIDE];
        private final int[][] right = new int[WIDE / 2 + 1][WIDE];
        private final int[] term = new int[WIDE];
        private final int[] image = new int[WIDE];

        /** The RESIDUE of t^i in THE LEAST POLYNOMIAL of x; 0 beyond its degree. */
        int leastCoefficient(Tower tower, int[] x, int i) {
            tower.negate(x, polynomial[0]);
            tower.setResidue(1, polynomial[1]);
            int degree = 1;
            // times its mirror, a polynomial comes one level lower: in the end there are RESIDUES
            for (int k = tower.levelOf(x); k > 0; k--) {
                multiplyByMirror(tower, k, degree);
                degree *= 2;
            }
            return i >= 0 && i <= degree && i <= WIDE ? polynomial[i][0] : 0;
        }

        private void multiplyByMirror(Tower tower, int k, int degree) {
            int last = Math.min(degree, WIDE / 2);
            for (int i = 0; i <= last; i++) {
                tower.copy(polynomial[i], left[i]);
                tower.mirror(polynomial[i], k, right[i]);
            }
            for (int i = 0; i <= 2 * last; i++) {
                tower.setResidue(0, polynomial[i]);
            }
            for (int i = 0; i <= last; i++) {
                for (int j = 0; j <= last; j++) {
                    tower.multiply(left[i], right[j], term);
                    tower.add(polynomial[i + j], term, polynomial[i + j]);
                }
            }
        }

        /** CONJUGATE i of x. */
        int[] imageOf(Tower tower, int[] x, int i) {
            tower.copy(x, image);
            for (int done = 0; done < i && done < WIDE; done++) {
                tower.raise(image, tower.modulus, image);
            }
            return image;
        }

        /** THE ORDER of x, which is not 0; NONE beyond the greatest that is told. */
        int leastPowerToOne(Tower tower, int[] x) {
            int level = tower.levelOf(x);
            for (int n = 1; n <= MOST_ORDER; n++) {
                // NUMBERS of ORDER n all have that LEVEL, so most n need not be tried
                if (firstHeight(tower.modulus, n) == level) {
                    tower.raise(x, n, term);
                    if (tower.isResidue(term, 1)) {
                        return n;
                    }
                }
            }
            return NONE;
        }

        /** The first k at which n divides p^(2^k) - 1; NONE, if there is none up to the greatest HEIGHT. */
        static int firstHeight(int p, int n) {
            if (n < 1) {
                return NONE;
            }
            long power = p % n;
            for (int k = 0; k <= TOP; k++) {
                if (power == 1 % n) {
                    return k;
                }
                power = power * power % n;
            }
            return NONE;
        }
    }
}
