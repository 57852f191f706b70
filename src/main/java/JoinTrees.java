/** Ordered sets of ints, united, cut and compared as wholes. */
public final class JoinTrees {
    public static final int BAD = -1;
    public static final int FULL = -2;
    public static final int NONE = -3;
    public static final int UNITE = 0;
    public static final int MEET = 1;
    public static final int LESS = 2;
    public static final int EITHER = 3;

    private static final int SETS = 4;
    private static final int MOST = 20;
    // SETS * MOST, and 2 * MOST: two full sets without a common int fit into a merge.
    private static final int CELLS = 80;
    private static final int MERGED_CELLS = 40;

    // Set s is ints[s * MOST] up to ints[s * MOST + counts[s] - 1], ascending; the cells behind are free.
    private final int[] ints = new int[CELLS];
    private final int[] counts = new int[SETS];
    // A result is built here first, so that d may be a or b, and so that FULL changes nothing.
    private final int[] merged = new int[MERGED_CELLS];

    public JoinTrees() {
    }

    public int add(int s, int x) {
        if (!isSet(s)) {
            return BAD;
        }
        int k = smallerThan(s, x);
        if (holdsAt(s, k, x)) {
            return 0;
        }
        if (counts[s] >= MOST) {
            return FULL;
        }
        insertAt(s, k, x);
        return 1;
    }

    public int remove(int s, int x) {
        if (!isSet(s)) {
            return BAD;
        }
        int k = smallerThan(s, x);
        if (!holdsAt(s, k, x)) {
            return 0;
        }
        cut(s, k, k + 1);
        return 1;
    }

    public boolean has(int s, int x) {
        if (!isSet(s)) {
            return false;
        }
        int k = smallerThan(s, x);
        return holdsAt(s, k, x);
    }

    public int size(int s) {
        return isSet(s) ? counts[s] : BAD;
    }

    public int at(int s, int k) {
        if (!isSet(s) || k < 0 || k >= counts[s]) {
            return 0;
        }
        return ints[s * MOST + k];
    }

    public int rank(int s, int x) {
        return isSet(s) ? smallerThan(s, x) : BAD;
    }

    public int combine(int how, int d, int a, int b) {
        if (how < UNITE || how > EITHER || !isSet(d) || !isSet(a) || !isSet(b)) {
            return BAD;
        }
        int n = merge(how, a, b);
        if (n > MOST) {
            return FULL;
        }
        takeMerged(d, n);
        return n;
    }

    public int split(int s, int x, int d) {
        if (!isSet(s) || !isSet(d)) {
            return BAD;
        }
        int k = smallerThan(s, x);
        if (d == s) {
            cut(s, 0, k);
        } else {
            moveTail(s, k, d);
        }
        return counts[d];
    }

    public int removeRange(int s, int low, int high) {
        if (!isSet(s)) {
            return BAD;
        }
        if (low > high) {
            return 0;
        }
        int from = smallerThan(s, low);
        int to = smallerThan(s, high);
        // high itself goes too; high + 1 is not asked for, as it wraps around at the greatest int.
        if (holdsAt(s, to, high)) {
            to++;
        }
        cut(s, from, to);
        return to - from;
    }

    public boolean same(int a, int b) {
        if (!isSet(a) || !isSet(b)) {
            return false;
        }
        return merge(EITHER, a, b) == 0;
    }

    public boolean within(int a, int b) {
        if (!isSet(a) || !isSet(b)) {
            return false;
        }
        return merge(LESS, a, b) == 0;
    }

    public int ceiling(int s, int x) {
        if (!isSet(s)) {
            return BAD;
        }
        int k = smallerThan(s, x);
        return k < counts[s] ? k : NONE;
    }

    public int clear(int s) {
        if (!isSet(s)) {
            return BAD;
        }
        int n = counts[s];
        counts[s] = 0;
        return n;
    }

    private static boolean isSet(int s) {
        return s >= 0 && s < SETS;
    }

    private int smallerThan(int s, int x) {
        int n = 0;
        for (int k = 0; k < counts[s]; k++) {
            if (ints[s * MOST + k] < x) {
                n++;
            }
        }
        return n;
    }

    private boolean holdsAt(int s, int k, int x) {
        return k < counts[s] && ints[s * MOST + k] == x;
    }

    private void insertAt(int s, int k, int x) {
        int base = s * MOST;
        for (int i = counts[s]; i > k; i--) {
            ints[base + i] = ints[base + i - 1];
        }
        ints[base + k] = x;
        counts[s]++;
    }

    /** Takes the ints number from to to - 1 out of set s. */
    private void cut(int s, int from, int to) {
        int base = s * MOST;
        int gap = to - from;
        for (int i = to; i < counts[s]; i++) {
            ints[base + i - gap] = ints[base + i];
        }
        counts[s] -= gap;
    }

    /** Set d, which is not s, becomes the ints of s from number k on; s keeps those before. */
    private void moveTail(int s, int k, int d) {
        int n = counts[s] - k;
        for (int i = 0; i < n; i++) {
            ints[d * MOST + i] = ints[s * MOST + k + i];
        }
        counts[d] = n;
        counts[s] = k;
    }

    /** Puts the combination of a and b into merged, ascending; answers how many ints it has. */
    private int merge(int how, int a, int b) {
        int i = 0;
        int j = 0;
        int n = 0;
        for (int step = 0; step < MERGED_CELLS; step++) {
            boolean inA = i < counts[a];
            boolean inB = j < counts[b];
            if (!inA && !inB) {
                break;
            }
            int x = inA ? ints[a * MOST + i] : 0;
            int y = inB ? ints[b * MOST + j] : 0;
            if (inA && inB) {
                // Only the smaller of the two is looked at in this step; both, if they are equal.
                inA = x <= y;
                inB = y <= x;
            }
            if (keeps(how, inA, inB)) {
                merged[n] = inA ? x : y;
                n++;
            }
            i += inA ? 1 : 0;
            j += inB ? 1 : 0;
        }
        return n;
    }

    private static boolean keeps(int how, boolean inA, boolean inB) {
        switch (how) {
            case UNITE:
                return inA || inB;
            case MEET:
                return inA && inB;
            case LESS:
                return inA && !inB;
            default:
                return inA != inB;
        }
    }

    private void takeMerged(int d, int n) {
        for (int i = 0; i < n; i++) {
            ints[d * MOST + i] = merged[i];
        }
        counts[d] = n;
    }
}
