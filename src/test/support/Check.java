import java.util.Arrays;

/** What the tests share, by being this: cases run one by one, sets put in and read back, answers compared. */
abstract class Check {
    static final int LEAST = Integer.MIN_VALUE;
    static final int GREATEST = Integer.MAX_VALUE;
    // Beside the nearest numbers: some that are right again if only their low bits, or their cells, are looked at.
    static final int[] TOO_SMALL = {-1, -2, -4, -20, -(1 << 30), LEAST};
    static final int[] TOO_LARGE = {4, 5, 8, 20, 1 << 30, GREATEST};

    private static String running = "";
    private static int cases = 0;
    private static int wrong = 0;

    interface Case {
        void run();
    }

    interface Call {
        int on(JoinTrees t);
    }

    interface NumberedCall {
        int on(JoinTrees t, int number);
    }

    /** One case of a sentence of the document; a throw is a wrong answer and doesn't hide the cases behind it. */
    static void that(String where, String sentence, Case test) {
        running = where + ", " + sentence;
        cases++;
        try {
            test.run();
        } catch (RuntimeException thrown) {
            wrong++;
            System.out.println(running + ": threw " + thrown);
        }
    }

    /** Two cases: a number below 0 and a number above 3 are answered so, and nothing changes. */
    static void outside(String where, String sentence, int want, NumberedCall call) {
        that(where, sentence + " (too small)", () -> refusedFor(TOO_SMALL, want, call));
        that(where, sentence + " (too large)", () -> refusedFor(TOO_LARGE, want, call));
    }

    private static void refusedFor(int[] numbers, int want, NumberedCall call) {
        for (int number : numbers) {
            unchanged("the number " + number, mixed(), want, t -> call.on(t, number));
            unchanged("the number " + number + ", all sets empty", new JoinTrees(), want, t -> call.on(t, number));
        }
    }

    /** The call is answered so, and every set is as it was. */
    static void unchanged(String call, JoinTrees t, int want, Call made) {
        int[][] before = sets(t);
        due(call, made.on(t), want);
        int[][] after = sets(t);
        for (int s = 0; s < 4; s++) {
            due(call + ", set " + s + " after it", after[s], before[s]);
        }
    }

    static void end() {
        String all = cases + " cases, all answers as due";
        System.out.println(wrong == 0 ? all : wrong + " answers are not as due");
        if (wrong != 0) {
            System.exit(1);
        }
    }

    /** Four sets of which each differs and each has a 7, so that a look into a wrong set shows. */
    static JoinTrees mixed() {
        JoinTrees t = with(0, 7);
        put(t, 1, LEAST, -7, 0, 7, GREATEST);
        fill(t, 2, 1, 20);
        put(t, 3, 5, 6, 7);
        return t;
    }

    static JoinTrees with(int s, int... xs) {
        JoinTrees t = new JoinTrees();
        put(t, s, xs);
        return t;
    }

    static JoinTrees filled(int s, int first, int last) {
        return with(s, run(first, last));
    }

    static void put(JoinTrees t, int s, int... xs) {
        for (int x : xs) {
            due("add(" + s + ", " + x + ")", t.add(s, x), 1);
        }
    }

    static void fill(JoinTrees t, int s, int first, int last) {
        put(t, s, run(first, last));
    }

    static int[] run(int first, int last) {
        int[] xs = new int[last - first + 1];
        for (int k = 0; k < xs.length; k++) {
            xs[k] = first + k;
        }
        return xs;
    }

    static void holds(JoinTrees t, int s, int... xs) {
        due("set " + s, set(t, s), xs);
    }

    static void holdsRun(JoinTrees t, int s, int first, int last) {
        holds(t, s, run(first, last));
    }

    private static int[][] sets(JoinTrees t) {
        return new int[][] {set(t, 0), set(t, 1), set(t, 2), set(t, 3)};
    }

    private static int[] set(JoinTrees t, int s) {
        int n = t.size(s);
        // A size that can't be is told as such, not by a throw of the test's own.
        int[] xs = new int[Math.max(0, Math.min(n, 20))];
        due("size(" + s + ")", n, xs.length);
        for (int k = 0; k < xs.length; k++) {
            xs[k] = t.at(s, k);
        }
        return xs;
    }

    static void due(String call, boolean got, boolean want) {
        report(call, got, want, got == want);
    }

    static void due(String call, int got, int want) {
        report(call, got, want, got == want);
    }

    private static void due(String call, int[] got, int[] want) {
        report(call, Arrays.toString(got), Arrays.toString(want), Arrays.equals(got, want));
    }

    private static void report(String call, Object got, Object want, boolean right) {
        if (!right) {
            wrong++;
            System.out.println(running + ": " + call + " answered " + got + ", due is " + want);
        }
    }
}
