import java.math.BigInteger;
import java.util.ArrayList;
import java.util.Arrays;
import java.util.List;

/**
 * Long runs of calls, each answered by the class and by a model that follows the document's words the slow way:
 * roots are looked for or found by big powers, the least polynomial by elimination, and after each change
 * all THINGS are made from the first on. The runs come from a counter, so they are the same each time.
 */
public final class ModelTest {
    private static final int CALLS = 512;
    private static final int[] SMALL = {3, 5, 7, 11, 13, 17, 19, 23};
    private static final int[] LARGE = {257, 641, 7681, 12289, 18433, 32719, 32717, 32749, 28001, 4001};
    private static int wrong = 0;
    private static long seed;

    private static int below(int n) {
        seed = seed * 6364136223846793005L + 1442695040888963407L;
        return (int) ((seed >>> 33) % n);
    }

    public static void main(String[] args) {
        int runs = args.length > 0 ? Integer.parseInt(args[0]) : 120;
        int first = args.length > 1 ? Integer.parseInt(args[1]) : 0;
        for (int run = first; run < first + runs && wrong < 20; run++) {
            seed = 7919L * run + 17;
            play(run);
        }
        System.out.println(wrong == 0 ? "class and model agree in " + runs + " runs" : wrong + " answers differ");
        if (wrong != 0) System.exit(1);
    }

    private static void play(int run) {
        CompassTowers it = new CompassTowers();
        Model model = new Model();
        int style = run % 4;
        int[] primes = run % 3 == 2 ? LARGE : SMALL;
        StringBuilder told = new StringBuilder();
        compare(run, told, it, model, 0, primes[below(primes.length)], 0, 0, 0);
        for (int call = 1; call < CALLS; call++) {
            int method = model.things.size() == 60 && below(3) == 0 ? 3 : pickMethod(style);
            int[] a = pickArguments(method, model, primes);
            if (!compare(run, told, it, model, method, a[0], a[1], a[2], a[3])) return;
        }
    }

    private static int pickMethod(int style) {
        int roll = below(100);
        if (roll < (style == 0 ? 12 : 40)) return 2;
        if (roll < (style == 0 ? 14 : 43)) return 3;
        if (roll < (style == 0 ? 17 : 45)) return 0;
        return 1 + below(16) + (below(2) == 0 ? 0 : 1);
    }

    /** An argument that is mostly a THING of a wanted sort, at times any number. */
    private static int pickThing(Model model, int wantedSorts) {
        int n = model.things.size();
        if (below(40) == 0 || n == 0) return below(n + 4) - 2;
        for (int tries = 0; tries < 40; tries++) {
            int t = below(4) == 0 ? below(n) : Math.max(0, n - 1 - below(12));
            if ((wantedSorts >> model.things.get(t).sort & 1) == 1) return t;
        }
        return below(n);
    }

    private static int[] pickArguments(int method, Model m, int[] primes) {
        switch (method) {
            case 0: {
                int roll = below(12);
                int p = roll < 9 ? primes[below(primes.length)] : roll < 10 ? below(40) - 3 : LARGE[below(LARGE.length)];
                return new int[] {p, 0, 0, 0};
            }
            case 2: return pickStep(m);
            case 4: return new int[] {pickThing(m, 15), below(10) - 1, 0, 0};
            case 5: return new int[] {pickThing(m, 15), below(4) - (below(9) == 0 ? 1 : 0), below(9) - (below(9) == 0 ? 1 : 0), 0};
            case 6: return new int[] {below(5) - 1, below(6) - 1, 0, 0};
            case 7: {
                int s = pickThing(m, 15);
                return new int[] {s, below(3) == 0 ? s : pickThing(m, 15), 0, 0};
            }
            case 8: return new int[] {pickThing(m, 2), pickThing(m, 12), 0, 0};
            case 9: return new int[] {pickThing(m, 4), pickThing(m, 4), 0, 0};
            case 10: return new int[] {pickThing(m, 1), below(6) - 1, 0, 0};
            case 12: return new int[] {pickThing(m, 1), below(11) - 1, 0, 0};
            case 13: return new int[] {pickThing(m, 1), below(10) - 1, below(10) - 1, 0};
            case 15: {
                int roll = below(3);
                int n = roll == 0 ? below(300) - 5 : roll == 1 ? below(Integer.MAX_VALUE) : m.divisorLike(below(1000));
                return new int[] {n, 0, 0, 0};
            }
            case 16: return new int[] {below(10) - 1, 0, 0, 0};
            default: return new int[] {pickThing(m, 1), 0, 0, 0};
        }
    }

    private static int[] pickStep(Model m) {
        int n = m.things.size();
        int kind = n < 5 ? (below(3) == 0 ? 6 : 0) : below(14);
        if (n > 12 && below(3) == 0) kind = below(3) == 0 ? 5 : 12;
        if (below(60) == 0) kind = below(20) - 3;
        int junk = below(3) == 0 ? below(2000) - 1000 : 0;
        switch (kind) {
            case 0: return new int[] {0, below(12) == 0 ? below(Integer.MAX_VALUE) * (below(2) == 0 ? 1 : -1) : below(40) - 9, junk, junk};
            case 1: case 2: case 3: case 4: case 6: return new int[] {kind, pickThing(m, 1), pickThing(m, 1), junk};
            case 5: return new int[] {kind, pickThing(m, 1), junk, junk};
            case 7: case 8: return new int[] {kind, pickThing(m, 2), pickThing(m, 2), junk};
            case 9: return new int[] {kind, pickThing(m, 2), pickThing(m, 2), pickThing(m, 2)};
            case 10: case 11: return new int[] {kind, pickThing(m, 4), pickThing(m, 2), junk};
            case 12: {
                int g = pickThing(m, 12);
                return new int[] {kind, g, below(20) == 0 ? g : pickThing(m, 12), below(20) == 0 ? below(5) - 1 : below(2)};
            }
            default: return new int[] {kind, pickThing(m, 14), below(25) == 0 ? below(5) - 1 : below(3), junk};
        }
    }

    private static boolean compare(int run, StringBuilder told, CompassTowers it, Model m, int method, int a, int b, int c, int d) {
        int got = callClass(it, method, a, b, c, d);
        int want = callModel(m, method, a, b, c, d);
        told.append(NAMES[method]).append(' ').append(a).append(' ').append(b).append(' ').append(c).append(' ').append(d)
            .append(" -> ").append(want).append('\n');
        if (got == want) return true;
        wrong++;
        System.out.println("run " + run + ": " + NAMES[method] + "(" + a + ", " + b + ", " + c + ", " + d + ") answered "
            + got + ", due is " + want + ", P " + m.p + ", height " + m.height);
        if (wrong == 1) System.out.println(told);
        return false;
    }

    private static final String[] NAMES = {"prime", "why", "step", "back", "thing", "coordinate", "base", "one", "on",
        "way", "square", "degree", "coefficient", "conjugate", "order", "corners", "count", "count"};

    private static int callClass(CompassTowers it, int method, int a, int b, int c, int d) {
        switch (method) {
            case 0: return it.prime(a);
            case 1: return it.why();
            case 2: return it.step(a, b, c, d);
            case 3: return it.back();
            case 4: return it.thing(a, b);
            case 5: return it.coordinate(a, b, c);
            case 6: return it.base(a, b);
            case 7: return it.one(a, b);
            case 8: return it.on(a, b);
            case 9: return it.way(a, b);
            case 10: return it.square(a, b);
            case 11: return it.degree(a);
            case 12: return it.coefficient(a, b);
            case 13: return it.conjugate(a, b, c);
            case 14: return it.order(a);
            case 15: return it.corners(a);
            default: return it.count(a);
        }
    }

    private static int callModel(Model m, int method, int a, int b, int c, int d) {
        switch (method) {
            case 0: return m.prime(a);
            case 1: return m.why;
            case 2: return m.step(a, b, c, d);
            case 3: return m.back();
            case 4: return m.thing(a, b);
            case 5: return m.coordinate(a, b, c);
            case 6: return m.base(a, b);
            case 7: return m.one(a, b);
            case 8: return m.on(a, b);
            case 9: return m.way(a, b);
            case 10: return m.square(a, b);
            case 11: return m.degree(a);
            case 12: return m.coefficient(a, b);
            case 13: return m.conjugate(a, b, c);
            case 14: return m.order(a);
            case 15: return m.corners(a);
            default: return m.count(a);
        }
    }
}

/** A THING of the model. */
final class ModelThing {
    final int sort;
    final int[][] numbers;
    boolean grew;

    ModelThing(int sort, int[]... numbers) {
        this.sort = sort;
        this.numbers = numbers;
    }
}

/** A refusal of a STEP. */
final class Refusal extends Exception {
    private static final long serialVersionUID = 1L;
    final int code;

    Refusal(int code) {
        this.code = code;
    }
}

/** The document told anew; a NUMBER is a fresh row of 8 each time. */
final class Model {
    private static final int BAD = -1, ZERO = -2, SAME = -3, MISSES = -4, HIGH = -5, FULL = -6, NONE = -7;
    int p = 3;
    int height = 0;
    int why = 0;
    int tries = 0;
    int[][] bases = new int[3][];
    List<int[]> steps = new ArrayList<>();
    List<ModelThing> things = new ArrayList<>();

    // ---- numbers: by halves, at a level

    private int[] num(long v) {
        int[] x = new int[8];
        x[0] = (int) (((v % p) + p) % p);
        return x;
    }

    private int[] add(int[] x, int[] y) {
        int[] z = new int[8];
        for (int i = 0; i < 8; i++) z[i] = (x[i] + y[i]) % p;
        return z;
    }

    private int[] neg(int[] x) {
        int[] z = new int[8];
        for (int i = 0; i < 8; i++) z[i] = (p - x[i]) % p;
        return z;
    }

    private int[] sub(int[] x, int[] y) {
        return add(x, neg(y));
    }

    private int[] mul(int[] x, int[] y) {
        return Arrays.copyOf(mulAt(Arrays.copyOf(x, 1 << height), Arrays.copyOf(y, 1 << height), height), 8);
    }

    private int[] mulAt(int[] x, int[] y, int k) {
        if (k == 0) return new int[] {(int) ((long) x[0] * y[0] % p)};
        int half = 1 << k - 1;
        int[] a = Arrays.copyOfRange(x, 0, half), b = Arrays.copyOfRange(x, half, 2 * half);
        int[] c = Arrays.copyOfRange(y, 0, half), d = Arrays.copyOfRange(y, half, 2 * half);
        int[] ac = mulAt(a, c, k - 1), bd = mulAt(mulAt(b, d, k - 1), Arrays.copyOf(bases[k - 1], half), k - 1);
        int[] ad = mulAt(a, d, k - 1), bc = mulAt(b, c, k - 1);
        int[] z = new int[2 * half];
        for (int i = 0; i < half; i++) {
            z[i] = (ac[i] + bd[i]) % p;
            z[half + i] = (ad[i] + bc[i]) % p;
        }
        return z;
    }

    private int[] pow(int[] x, BigInteger e) {
        int[] z = num(1);
        for (int i = e.bitLength() - 1; i >= 0; i--) {
            z = mul(z, z);
            if (e.testBit(i)) z = mul(z, x);
        }
        return z;
    }

    private BigInteger size(int k) {
        return BigInteger.valueOf(p).pow(1 << k);
    }

    private int[] div(int[] x, int[] y) {
        return mul(x, pow(y, size(height).subtract(BigInteger.TWO)));
    }

    private boolean zero(int[] x) {
        return Arrays.equals(x, new int[8]);
    }

    private int level(int[] x) {
        for (int k = 0; k < 3; k++) {
            boolean fits = true;
            for (int i = 1 << k; i < 8; i++) fits &= x[i] == 0;
            if (fits) return k;
        }
        return 3;
    }

    private boolean isSquare(int[] x, int k) {
        return zero(x) || Arrays.equals(pow(x, size(k).subtract(BigInteger.ONE).shiftRight(1)), num(1));
    }

    private int[] theRoot(int[] x) {
        BigInteger q = size(height);
        if (q.compareTo(BigInteger.valueOf(2500)) < 0) {
            // COORDINATES from the first one on, the least first
            for (int n = 0; n < q.intValue(); n++) {
                int[] z = new int[8];
                int rest = n;
                for (int i = (1 << height) - 1; i >= 0; i--) {
                    z[i] = rest % p;
                    rest /= p;
                }
                if (Arrays.equals(mul(z, z), x)) return z;
            }
            throw new IllegalStateException("no root");
        }
        int[] z = anyRoot(x, q);
        if (!Arrays.equals(mul(z, z), x)) throw new IllegalStateException("no root");
        int[] w = neg(z);
        return Arrays.compare(z, w) <= 0 ? z : w;
    }

    private int[] anyRoot(int[] x, BigInteger q) {
        if (zero(x)) return x;
        BigInteger odd = q.subtract(BigInteger.ONE);
        int twos = odd.getLowestSetBit();
        odd = odd.shiftRight(twos);
        int[] no = num(0);
        long mixed = 1;
        while (isSquare(no, height)) {
            for (int i = 0; i < 1 << height; i++) {
                mixed = mixed * 6364136223846793005L + 1442695040888963407L;
                no[i] = (int) ((mixed >>> 33) % p);
            }
        }
        int[] c = pow(no, odd), t = pow(x, odd), r = pow(x, odd.add(BigInteger.ONE).shiftRight(1));
        int m = twos;
        while (!Arrays.equals(t, num(1))) {
            int i = 0;
            int[] s = t;
            while (!Arrays.equals(s, num(1))) {
                s = mul(s, s);
                i++;
            }
            int[] b = c;
            for (int j = 0; j < m - i - 1; j++) b = mul(b, b);
            m = i;
            c = mul(b, b);
            t = mul(t, c);
            r = mul(r, b);
        }
        return r;
    }

    // ---- making

    private int[] rootOrGrow(int[] x) throws Refusal {
        if (isSquare(x, height)) return theRoot(x);
        if (height == 3) throw new Refusal(HIGH);
        bases[height] = x;
        height++;
        int[] r = new int[8];
        r[1 << height - 1] = 1;
        return r;
    }

    private ModelThing line(int[] a, int[] b, int[] c) {
        if (zero(b)) return new ModelThing(2, num(1), num(0), div(c, a));
        return new ModelThing(2, div(a, b), num(1), div(c, b));
    }

    private ModelThing lineBy(int[] a, int[] b, ModelThing q) {
        return line(a, b, neg(add(mul(a, q.numbers[0]), mul(b, q.numbers[1]))));
    }

    private int[] apart(ModelThing a, ModelThing b) {
        int[] dx = sub(a.numbers[0], b.numbers[0]), dy = sub(a.numbers[1], b.numbers[1]);
        return add(mul(dx, dx), mul(dy, dy));
    }

    private boolean areOne(ModelThing s, ModelThing t) {
        return s.sort == t.sort && Arrays.deepEquals(s.numbers, t.numbers);
    }

    private ModelThing make(int[] s) throws Refusal {
        int before = height;
        ModelThing made = makeIt(s);
        made.grew = height > before;
        return made;
    }

    private ModelThing makeIt(int[] s) throws Refusal {
        int kind = s[0];
        if (kind == 0) return new ModelThing(0, num(s[1]));
        ModelThing a = things.get(s[1]);
        if (kind == 5) return new ModelThing(0, rootOrGrow(a.numbers[0]));
        if (kind == 13) return new ModelThing(0, a.numbers[s[2]]);
        ModelThing b = things.get(s[2]);
        int[] x = a.numbers[0], y = b.numbers[0];
        switch (kind) {
            case 1: return new ModelThing(0, add(x, y));
            case 2: return new ModelThing(0, sub(x, y));
            case 3: return new ModelThing(0, mul(x, y));
            case 4:
                if (zero(y)) throw new Refusal(ZERO);
                return new ModelThing(0, div(x, y));
            case 6: return new ModelThing(1, x, y);
            case 7:
                if (areOne(a, b)) throw new Refusal(SAME);
                return lineBy(sub(b.numbers[1], a.numbers[1]), sub(x, y), a);
            case 8: return new ModelThing(3, x, a.numbers[1], apart(a, b));
            case 9: return new ModelThing(3, x, a.numbers[1], apart(b, things.get(s[3])));
            case 10: return lineBy(neg(a.numbers[1]), x, b);
            case 11: return lineBy(x, a.numbers[1], b);
            default: return meeting(a, b, s[3]);
        }
    }

    private ModelThing meeting(ModelThing g, ModelThing h, int i) throws Refusal {
        if (g.sort == 2 && h.sort == 2) return meetingOfLines(g, h, i);
        if (g.sort == 2) return meetingOfLineAndCircle(g, h, i);
        if (h.sort == 2) return meetingOfLineAndCircle(h, g, i);
        if (zero(apartExactly(g, h, 0)) && zero(apartExactly(g, h, 1))) throw new Refusal(areOne(g, h) ? SAME : MISSES);
        int[] two = num(2);
        int[] a = mul(two, sub(h.numbers[0], g.numbers[0])), b = mul(two, sub(h.numbers[1], g.numbers[1]));
        int[] c = num(0);
        for (int k = 0; k < 2; k++) c = add(c, sub(mul(g.numbers[k], g.numbers[k]), mul(h.numbers[k], h.numbers[k])));
        return meetingOfLineAndCircle(line(a, b, add(c, sub(h.numbers[2], g.numbers[2]))), g, i);
    }

    private int[] apartExactly(ModelThing g, ModelThing h, int k) {
        return sub(g.numbers[k], h.numbers[k]);
    }

    private ModelThing meetingOfLines(ModelThing g, ModelThing h, int i) throws Refusal {
        if (areOne(g, h)) throw new Refusal(SAME);
        int[] a = g.numbers[0], c = g.numbers[2], d = h.numbers[0], f = h.numbers[2];
        boolean gUp = zero(g.numbers[1]), hUp = zero(h.numbers[1]);
        if (gUp && hUp || !gUp && !hUp && Arrays.equals(a, d)) throw new Refusal(MISSES);
        if (i == 1) throw new Refusal(MISSES);
        int[] x = gUp ? neg(c) : hUp ? neg(f) : div(sub(f, c), sub(a, d));
        return new ModelThing(1, x, gUp ? neg(add(mul(d, x), f)) : neg(add(mul(a, x), c)));
    }

    private ModelThing meetingOfLineAndCircle(ModelThing l, ModelThing o, int i) throws Refusal {
        int[] a = l.numbers[0], c = l.numbers[2], h = o.numbers[0], k = o.numbers[1], s = o.numbers[2];
        boolean up = zero(l.numbers[1]);
        int[] A, B, C;
        if (up) {
            A = num(1);
            B = mul(num(-2), k);
            C = sub(add(mul(k, k), mul(add(c, h), add(c, h))), s);
        } else {
            A = add(num(1), mul(a, a));
            B = sub(mul(mul(num(2), a), add(c, k)), mul(num(2), h));
            C = sub(add(mul(h, h), mul(add(c, k), add(c, k))), s);
        }
        int[] t = rootOf(A, B, C, i);
        ModelThing point = up ? new ModelThing(1, neg(c), t) : new ModelThing(1, t, neg(add(mul(a, t), c)));
        if (!lies(point, l) || !lies(point, o)) throw new IllegalStateException("not on both");
        return point;
    }

    private int[] rootOf(int[] A, int[] B, int[] C, int i) throws Refusal {
        if (zero(A) && zero(B)) throw new Refusal(zero(C) ? SAME : MISSES);
        if (zero(A)) {
            if (i == 1) throw new Refusal(MISSES);
            return neg(div(C, B));
        }
        int[] E = sub(mul(B, B), mul(num(4), mul(A, C)));
        if (zero(E) && i == 1) throw new Refusal(MISSES);
        int[] R = rootOrGrow(E);
        return div(i == 0 ? sub(neg(B), R) : add(neg(B), R), mul(num(2), A));
    }

    private boolean lies(ModelThing q, ModelThing t) {
        int[] x = q.numbers[0], y = q.numbers[1];
        if (t.sort == 2) return zero(add(add(mul(t.numbers[0], x), mul(t.numbers[1], y)), t.numbers[2]));
        return Arrays.equals(apart(q, t), t.numbers[2]);
    }

    // ---- the face

    private boolean isSort(int t, int sorts) {
        return t >= 0 && t < things.size() && (sorts >> things.get(t).sort & 1) == 1;
    }

    private boolean good(int kind, int a, int b, int c) {
        switch (kind) {
            case 0: return true;
            case 1: case 2: case 3: case 4: case 6: return isSort(a, 1) && isSort(b, 1);
            case 5: return isSort(a, 1);
            case 7: case 8: return isSort(a, 2) && isSort(b, 2);
            case 9: return isSort(a, 2) && isSort(b, 2) && isSort(c, 2);
            case 10: case 11: return isSort(a, 4) && isSort(b, 2);
            case 12: return isSort(a, 12) && isSort(b, 12) && (c == 0 || c == 1);
            case 13: return isSort(a, 14) && b >= 0 && b < things.get(a).numbers.length;
            default: return false;
        }
    }

    private static final int[] TOLD = {1, 2, 2, 2, 2, 1, 2, 2, 2, 3, 2, 2, 3, 2};

    int step(int kind, int a, int b, int c) {
        if (!good(kind, a, b, c)) return BAD;
        if (things.size() == 60) return FULL;
        int[] s = {kind, a, TOLD[kind] > 1 ? b : 0, TOLD[kind] > 2 ? c : 0};
        try {
            things.add(make(s));
        } catch (Refusal refused) {
            return refused.code;
        }
        steps.add(s);
        return things.size() - 1;
    }

    private int anew(int prime, List<int[]> all) {
        int oldP = p, oldHeight = height;
        int[][] oldBases = bases;
        List<ModelThing> old = things;
        p = prime;
        height = 0;
        bases = new int[3][];
        things = new ArrayList<>();
        try {
            for (int[] s : all) things.add(make(s));
        } catch (Refusal refused) {
            int at = things.size();
            why = refused.code;
            p = oldP;
            height = oldHeight;
            bases = oldBases;
            things = old;
            return -20 - at;
        }
        return things.size();
    }

    int prime(int n) {
        if (n < 3 || n > 32749 || n % 2 == 0 || !BigInteger.valueOf(n).isProbablePrime(60)) return BAD;
        tries++;
        if (tries >= 13) return FULL;
        return anew(n, steps);
    }

    int back() {
        if (steps.isEmpty()) return NONE;
        steps.remove(steps.size() - 1);
        if (anew(p, steps) != steps.size()) throw new IllegalStateException("not made anew");
        return steps.size();
    }

    private int price(int t) {
        int kind = steps.get(t)[0];
        if (kind >= 7 && kind <= 11) return 1;
        return !things.get(t).grew ? 0 : kind == 12 ? 3 : 2;
    }

    int thing(int t, int what) {
        if (!isSort(t, 15)) return BAD;
        ModelThing it = things.get(t);
        if (what == 0) return it.sort;
        if (what >= 1 && what <= 4) return steps.get(t)[what - 1];
        if (what == 5) return price(t);
        if (what == 6) return it.grew ? 1 : 0;
        if (what != 7) return NONE;
        int most = 0;
        for (int[] x : it.numbers) most = Math.max(most, level(x));
        return most;
    }

    int coordinate(int t, int i, int j) {
        if (!isSort(t, 15) || i < 0 || i >= things.get(t).numbers.length || j < 0 || j > 7) return BAD;
        return things.get(t).numbers[i][j];
    }

    int base(int k, int j) {
        return k < 0 || k >= height || j < 0 || j > 3 ? BAD : bases[k][j];
    }

    int one(int s, int t) {
        if (!isSort(s, 15) || !isSort(t, 15)) return BAD;
        return areOne(things.get(s), things.get(t)) ? 1 : 0;
    }

    int on(int q, int t) {
        if (!isSort(q, 2) || !isSort(t, 12)) return BAD;
        return lies(things.get(q), things.get(t)) ? 1 : 0;
    }

    int way(int l, int m) {
        if (!isSort(l, 4) || !isSort(m, 4)) return BAD;
        int[][] x = things.get(l).numbers, y = things.get(m).numbers;
        if (zero(add(mul(x[0], y[0]), mul(x[1], y[1])))) return 2;
        return zero(sub(mul(x[0], y[1]), mul(x[1], y[0]))) ? 1 : 0;
    }

    int square(int t, int k) {
        if (!isSort(t, 1) || k > height || k < level(things.get(t).numbers[0])) return BAD;
        return isSquare(things.get(t).numbers[0], k) ? 1 : 0;
    }

    /** The first power of x that the ones below it make up, by elimination; what they make it up with. */
    private int[] least(int[] x) {
        List<int[]> powers = new ArrayList<>();
        int[] next = num(1);
        while (true) {
            int[] found = combine(powers, next);
            if (found != null) {
                int[] poly = new int[powers.size() + 1];
                for (int i = 0; i < found.length; i++) poly[i] = (p - found[i]) % p;
                poly[powers.size()] = 1;
                return poly;
            }
            powers.add(next);
            next = mul(next, x);
        }
    }

    private int[] combine(List<int[]> rows, int[] goal) {
        int n = rows.size();
        long[][] m = new long[8][n + 1];
        for (int r = 0; r < 8; r++) {
            for (int c = 0; c < n; c++) m[r][c] = rows.get(c)[r];
            m[r][n] = goal[r];
        }
        int done = 0;
        for (int c = 0; c < n; c++) {
            int pivot = done;
            while (pivot < 8 && m[pivot][c] == 0) pivot++;
            long[] swap = m[pivot];
            m[pivot] = m[done];
            m[done] = swap;
            long inverse = BigInteger.valueOf(m[done][c]).modInverse(BigInteger.valueOf(p)).longValue();
            for (int k = 0; k <= n; k++) m[done][k] = m[done][k] * inverse % p;
            for (int r = 0; r < 8; r++) {
                long f = m[r][c];
                if (r != done && f != 0) for (int k = 0; k <= n; k++) m[r][k] = ((m[r][k] - f * m[done][k]) % p + p) % p;
            }
            done++;
        }
        for (int r = n; r < 8; r++) if (m[r][n] != 0) return null;
        int[] found = new int[n];
        for (int r = 0; r < n; r++) found[r] = (int) m[r][n];
        return found;
    }

    int degree(int t) {
        return isSort(t, 1) ? least(things.get(t).numbers[0]).length - 1 : BAD;
    }

    int coefficient(int t, int i) {
        if (!isSort(t, 1) || i < 0) return BAD;
        int[] poly = least(things.get(t).numbers[0]);
        return i < poly.length ? poly[i] : 0;
    }

    int conjugate(int t, int i, int j) {
        if (!isSort(t, 1) || i < 0 || j < 0 || j > 7) return BAD;
        int[] x = things.get(t).numbers[0], y = x;
        for (int n = 0; n < i; n++) {
            y = pow(y, BigInteger.valueOf(p));
            if (Arrays.equals(x, y)) return NONE;
        }
        return y[j];
    }

    int order(int t) {
        if (!isSort(t, 1)) return BAD;
        int[] x = things.get(t).numbers[0], y = x;
        if (zero(x)) return ZERO;
        for (int n = 1; n <= 4000; n++) {
            if (Arrays.equals(y, num(1))) return n;
            y = mul(y, x);
        }
        return NONE;
    }

    int corners(int n) {
        if (n < 3) return BAD;
        for (int k = 0; k < 4; k++) {
            if (size(k).subtract(BigInteger.ONE).mod(BigInteger.valueOf(n)).signum() == 0) return k;
        }
        return NONE;
    }

    /** Some divisor of P^8 - 1, so that CORNERS are found at times. */
    int divisorLike(int pick) {
        BigInteger all = size(3).subtract(BigInteger.ONE);
        for (int n = 3 + pick; n < 5000; n++) {
            if (all.mod(BigInteger.valueOf(n)).signum() == 0) return n;
        }
        return 4;
    }

    int count(int what) {
        int sum = 0;
        switch (what) {
            case 0: return things.size();
            case 1: return height;
            case 2: return p;
            case 3:
                for (int t = 0; t < things.size(); t++) sum += price(t);
                return sum;
            case 4: case 5: case 6: case 7:
                for (ModelThing t : things) sum += t.sort == what - 4 ? 1 : 0;
                return sum;
            default: return BAD;
        }
    }
}
