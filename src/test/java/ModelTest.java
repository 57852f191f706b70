import java.util.ArrayList;
import java.util.List;
import java.util.TreeSet;

/** Long runs of mixed calls, each answer and each state compared with sets of the Java library. */
public final class ModelTest {
    private static final int RUNS = 3000;
    // Nothing is promised of an object after its 512th call, so the looks at its state count as well.
    private static final int CALLS = 512;
    private static final int LOOK = 4 + 4 * 20;
    private static final int[] FAR = {Integer.MIN_VALUE, Integer.MIN_VALUE + 1, Integer.MAX_VALUE - 1, Integer.MAX_VALUE};

    private static long state = 1;
    private static int wrong = 0;

    private final JoinTrees trees = new JoinTrees();
    private final List<TreeSet<Integer>> sets = new ArrayList<>();
    private final int run;
    private final int spread;
    private int calls = 0;

    private ModelTest(int run) {
        this.run = run;
        // Narrow runs make sets meet often; wide ones fill them.
        this.spread = 4 + run % 60;
        for (int s = 0; s < 4; s++) {
            sets.add(new TreeSet<>());
        }
    }

    public static void main(String[] args) {
        for (int run = 0; run < RUNS && wrong < 20; run++) {
            ModelTest test = new ModelTest(run);
            test.wholeRun();
        }
        System.out.println(wrong == 0 ? "all answers are as due" : wrong + " or more answers are not as due");
        if (wrong != 0) {
            System.exit(1);
        }
    }

    private void wholeRun() {
        boolean looksEachTime = run % 4 == 0;
        while (calls + 1 + LOOK <= CALLS && wrong < 20) {
            oneCall();
            if (looksEachTime) {
                compareStates();
            }
        }
        if (!looksEachTime) {
            compareStates();
        }
    }

    private void oneCall() {
        int s = set();
        int x = value();
        switch (below(22)) {
            case 0: due("remove(" + s + ", " + x + ")", trees.remove(s, x), remove(s, x)); break;
            case 1: due("has(" + s + ", " + x + ")", trees.has(s, x) ? 1 : 0, bad(s) || !sets.get(s).contains(x) ? 0 : 1); break;
            case 2: due("size(" + s + ")", trees.size(s), bad(s) ? -1 : sets.get(s).size()); break;
            case 3: at(s, below(24) - 2); break;
            case 4: due("rank(" + s + ", " + x + ")", trees.rank(s, x), bad(s) ? -1 : sets.get(s).headSet(x).size()); break;
            case 5: case 6: case 7: combine(below(12) == 0 ? below(8) - 2 : below(4), set(), s, set()); break;
            case 8: split(s, x, set()); break;
            case 9: removeRange(s, x, below(2) == 0 ? value() : x + below(6)); break;
            case 10: same(s, set()); break;
            case 11: within(s, set()); break;
            case 12: ceiling(s, x); break;
            case 13: clear(s); break;
            default: due("add(" + s + ", " + x + ")", trees.add(s, x), add(s, x)); break;
        }
    }

    private int add(int s, int x) {
        if (bad(s)) return -1;
        if (sets.get(s).contains(x)) return 0;
        if (sets.get(s).size() == 20) return -2;
        sets.get(s).add(x);
        return 1;
    }

    private int remove(int s, int x) {
        if (bad(s)) return -1;
        return sets.get(s).remove(x) ? 1 : 0;
    }

    private void at(int s, int k) {
        boolean there = !bad(s) && k >= 0 && k < sets.get(s).size();
        int want = there ? new ArrayList<>(sets.get(s)).get(k) : 0;
        due("at(" + s + ", " + k + ")", trees.at(s, k), want);
    }

    private void combine(int how, int d, int a, int b) {
        int want = -1;
        if (how >= 0 && how <= 3 && !bad(d) && !bad(a) && !bad(b)) {
            TreeSet<Integer> result = combined(how, sets.get(a), sets.get(b));
            want = result.size() > 20 ? -2 : result.size();
            if (want >= 0) sets.set(d, result);
        }
        due("combine(" + how + ", " + d + ", " + a + ", " + b + ")", trees.combine(how, d, a, b), want);
    }

    private static TreeSet<Integer> combined(int how, TreeSet<Integer> a, TreeSet<Integer> b) {
        TreeSet<Integer> all = new TreeSet<>(a);
        all.addAll(b);
        TreeSet<Integer> result = new TreeSet<>();
        for (int x : all) {
            boolean inA = a.contains(x);
            boolean inB = b.contains(x);
            boolean[] kept = {inA || inB, inA && inB, inA && !inB, inA ^ inB};
            if (kept[how]) result.add(x);
        }
        return result;
    }

    private void split(int s, int x, int d) {
        int want = -1;
        if (!bad(s) && !bad(d)) {
            TreeSet<Integer> tail = new TreeSet<>(sets.get(s).tailSet(x));
            sets.get(s).removeAll(tail);
            sets.set(d, tail);
            want = tail.size();
        }
        due("split(" + s + ", " + x + ", " + d + ")", trees.split(s, x, d), want);
    }

    private void removeRange(int s, int low, int high) {
        int want = -1;
        if (!bad(s)) {
            int before = sets.get(s).size();
            sets.get(s).removeIf(x -> x >= low && x <= high);
            want = before - sets.get(s).size();
        }
        due("removeRange(" + s + ", " + low + ", " + high + ")", trees.removeRange(s, low, high), want);
    }

    private void same(int a, int b) {
        boolean want = !bad(a) && !bad(b) && sets.get(a).equals(sets.get(b));
        due("same(" + a + ", " + b + ")", trees.same(a, b) ? 1 : 0, want ? 1 : 0);
    }

    private void within(int a, int b) {
        boolean want = !bad(a) && !bad(b) && sets.get(b).containsAll(sets.get(a));
        due("within(" + a + ", " + b + ")", trees.within(a, b) ? 1 : 0, want ? 1 : 0);
    }

    private void ceiling(int s, int x) {
        int want = -1;
        if (!bad(s)) {
            Integer found = sets.get(s).ceiling(x);
            want = found == null ? -3 : sets.get(s).headSet(found).size();
        }
        due("ceiling(" + s + ", " + x + ")", trees.ceiling(s, x), want);
    }

    private void clear(int s) {
        int want = -1;
        if (!bad(s)) {
            want = sets.get(s).size();
            sets.get(s).clear();
        }
        due("clear(" + s + ")", trees.clear(s), want);
    }

    private void compareStates() {
        for (int s = 0; s < 4; s++) {
            due("size(" + s + ")", trees.size(s), sets.get(s).size());
            int k = 0;
            for (int x : sets.get(s)) {
                due("at(" + s + ", " + k + ")", trees.at(s, k), x);
                k++;
            }
        }
    }

    private static boolean bad(int s) {
        return s < 0 || s > 3;
    }

    private static int set() {
        return below(40) == 0 ? below(8) - 2 : below(4);
    }

    private int value() {
        return below(12) == 0 ? FAR[below(4)] : below(spread) - spread / 2;
    }

    // The same numbers each time, so that a failing run can be run again.
    private static int below(int n) {
        state = state * 6364136223846793005L + 1442695040888963407L;
        return (int) ((state >>> 33) % n);
    }

    private void due(String call, int got, int want) {
        calls++;
        if (got != want) {
            wrong++;
            System.out.println("run " + run + ", call " + calls + ": " + call + " answered " + got + ", due is " + want);
        }
    }
}
