/** Names for the answers and the KINDS; without a package there is nothing to import them from, so tests implement this. */
interface Names {
    int BAD = -1, ZERO = -2, SAME = -3, MISSES = -4, HIGH = -5, FULL = -6, NONE = -7;
    int GIVEN = 0, SUM = 1, LESS = 2, TIMES = 3, OVER = 4, ROOT = 5, POINT = 6, LINE = 7, CIRCLE = 8, AROUND = 9,
        SQUARE_UP = 10, ALONG = 11, MEET = 12, PART = 13;
    int LEAST = Integer.MIN_VALUE, MOST = Integer.MAX_VALUE;
}
