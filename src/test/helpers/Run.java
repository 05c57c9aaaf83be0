import java.util.Arrays;

/** A run of calls on a new object: each method takes the answer that is due, then what the call is told. */
final class Run implements Names {
    /** Nothing is promised of later calls, so a test must not rest on them. */
    private static final int MOST_CALLS = 512;

    final CompassTowers it = new CompassTowers();
    private int calls = 0;

    /** A run over p whose THINGS 0 .. are the NUMBERS given. */
    static Run over(int p, int... given) {
        Run run = new Run();
        run.prime(0, p);
        for (int t = 0; t < given.length; t++) run.step(t, GIVEN, given[t]);
        return run;
    }

    /** Over 5: THING 0 is 2, and 1, 2, 3 are r, s, t with r r = 2, s s = r, t t = s, which is as high as it goes. */
    static Run tall() {
        Run run = over(5, 2);
        for (int t = 1; t <= 3; t++) run.step(t, ROOT, t - 1);
        return run;
    }

    private int counted(int answer) {
        calls++;
        if (calls > MOST_CALLS) Sentences.fault("the test makes more than " + MOST_CALLS + " calls");
        return answer;
    }

    private void due(int want, int got, String method, int... told) {
        counted(got);
        if (got != want) Sentences.fault(method + Arrays.toString(told) + " answered " + got + ", due is " + want);
    }

    void prime(int want, int p) {
        due(want, it.prime(p), "prime", p);
    }

    void why(int want) {
        due(want, it.why(), "why");
    }

    /** What is not told is 0. */
    void step(int want, int kind, int... told) {
        int[] all = Arrays.copyOf(told, 3);
        due(want, it.step(kind, all[0], all[1], all[2]), "step " + kind + " ", all);
    }

    /** A STEP that is not refused: its THING. */
    int made(int kind, int... told) {
        int thing = counted(it.count(0));
        step(thing, kind, told);
        return thing;
    }

    int callsLeft() {
        return MOST_CALLS - calls;
    }

    void back(int want) {
        due(want, it.back(), "back");
    }

    void thing(int want, int t, int what) {
        due(want, it.thing(t, what), "thing", t, what);
    }

    void coordinate(int want, int t, int i, int j) {
        due(want, it.coordinate(t, i, j), "coordinate", t, i, j);
    }

    void base(int want, int k, int j) {
        due(want, it.base(k, j), "base", k, j);
    }

    void one(int want, int s, int t) {
        due(want, it.one(s, t), "one", s, t);
    }

    void on(int want, int p, int t) {
        due(want, it.on(p, t), "on", p, t);
    }

    void way(int want, int l, int m) {
        due(want, it.way(l, m), "way", l, m);
    }

    void square(int want, int t, int k) {
        due(want, it.square(t, k), "square", t, k);
    }

    void degree(int want, int t) {
        due(want, it.degree(t), "degree", t);
    }

    void coefficient(int want, int t, int i) {
        due(want, it.coefficient(t, i), "coefficient", t, i);
    }

    void conjugate(int want, int t, int i, int j) {
        due(want, it.conjugate(t, i, j), "conjugate", t, i, j);
    }

    void order(int want, int t) {
        due(want, it.order(t), "order", t);
    }

    void corners(int want, int n) {
        due(want, it.corners(n), "corners", n);
    }

    void count(int want, int what) {
        due(want, it.count(what), "count", what);
    }

    /** All 8 COORDINATES of NUMBER i of a THING; those not told are 0. */
    void row(int t, int i, int... want) {
        int[] all = Arrays.copyOf(want, 8);
        for (int j = 0; j < 8; j++) coordinate(all[j], t, i, j);
    }

    /** All 8 COORDINATES of a NUMBER, as they are answered. */
    int[] coordinates(int t) {
        int[] all = new int[8];
        for (int j = 0; j < 8; j++) all[j] = counted(it.coordinate(t, 0, j));
        return all;
    }

    /** A THING whose NUMBERS are these RESIDUES. */
    void residues(int t, int... want) {
        for (int i = 0; i < want.length; i++) row(t, i, want[i]);
        coordinate(BAD, t, want.length, 0);
    }

    /** COORDINATES of a BASE, all four. */
    void baseRow(int k, int... want) {
        int[] all = Arrays.copyOf(want, 4);
        for (int j = 0; j < 4; j++) base(all[j], k, j);
    }

    /** GIVENS of 0 up to this many THINGS. */
    void fillTo(int many) {
        for (int t = counted(it.count(0)); t < many; t++) step(t, GIVEN, 0);
    }

    /** That all that can be asked is answered as by the other run. */
    void sameAs(Run other) {
        for (int what = 0; what < 8; what++) count(other.counted(other.it.count(what)), what);
        why(other.counted(other.it.why()));
        for (int k = 0; k < 3; k++) {
            for (int j = 0; j < 1 << k; j++) base(other.counted(other.it.base(k, j)), k, j);
        }
        int things = counted(it.count(0));
        int width = 1 << counted(it.count(1));
        for (int t = 0; t < things; t++) {
            for (int what = 0; what < 8; what++) thing(other.counted(other.it.thing(t, what)), t, what);
            int numbers = Math.min(counted(it.thing(t, 0)) + 1, 3);
            for (int i = 0; i < numbers; i++) {
                for (int j = 0; j < width; j++) coordinate(other.counted(other.it.coordinate(t, i, j)), t, i, j);
            }
        }
    }
}
