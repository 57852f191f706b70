/** One method a promise: ordinary inputs, the edges that the document names, and wrong inputs. */
public final class PromiseTest {
    private static final int LEAST = Integer.MIN_VALUE;
    private static final int GREATEST = Integer.MAX_VALUE;
    private static final int[] NO_SETS = {-1, 4, 5, 100, LEAST, GREATEST};

    private static int promise = 0;
    private static int wrong = 0;

    public static void main(String[] args) {
        newObject();
        add();
        remove();
        has();
        size();
        at();
        rank();
        combineResults();
        combineOntoItsOwnSets();
        combineFull();
        combineBad();
        splitIntoAnother();
        splitOntoItself();
        removeRange();
        same();
        within();
        ceiling();
        clear();
        orderAndLimits();
        System.out.println(wrong == 0 ? "all answers are as due" : wrong + " answers are not as due");
        if (wrong != 0) {
            System.exit(1);
        }
    }

    private static void newObject() {
        promise = 1;
        JoinTrees first = new JoinTrees();
        for (int s = 0; s < 4; s++) {
            holds(first, s);
            due("add", first.add(s, 10 + s), 1);
        }
        JoinTrees second = new JoinTrees();
        for (int s = 0; s < 4; s++) {
            holds(second, s);
            holds(first, s, 10 + s);
        }
    }

    private static void add() {
        promise = 2;
        JoinTrees t = new JoinTrees();
        int[] given = {5, GREATEST, -3, 0, LEAST, 9, -1};
        for (int x : given) {
            due("add of a new int", t.add(1, x), 1);
        }
        holds(t, 1, LEAST, -3, -1, 0, 5, 9, GREATEST);
        for (int x : given) {
            due("add of an int that is there", t.add(1, x), 0);
        }
        holds(t, 1, LEAST, -3, -1, 0, 5, 9, GREATEST);
        holds(t, 0);
        holds(t, 2);
        for (int s = 0; s < 4; s++) {
            JoinTrees u = new JoinTrees();
            fill(u, s, 20, 39);
            due("add of int 21", u.add(s, 19), JoinTrees.FULL);
            due("add of int 21", u.add(s, 40), JoinTrees.FULL);
            holdsRun(u, s, 20, 39);
            due("add to another set", u.add((s + 1) % 4, 19), 1);
        }
        JoinTrees v = allDifferent();
        for (int s : NO_SETS) {
            due("add to no set", v.add(s, 1), JoinTrees.BAD);
        }
        isAllDifferent(v);
    }

    private static void remove() {
        promise = 3;
        JoinTrees t = with(2, LEAST, -4, 0, 6, GREATEST);
        due("remove of an int that is not there", t.remove(2, 5), 0);
        due("remove of an int of no set", t.remove(0, 6), 0);
        holds(t, 2, LEAST, -4, 0, 6, GREATEST);
        due("remove in the middle", t.remove(2, 0), 1);
        holds(t, 2, LEAST, -4, 6, GREATEST);
        due("remove again", t.remove(2, 0), 0);
        due("remove the first", t.remove(2, LEAST), 1);
        holds(t, 2, -4, 6, GREATEST);
        due("remove the last", t.remove(2, GREATEST), 1);
        due("remove the last again", t.remove(2, GREATEST), 0);
        holds(t, 2, -4, 6);
        due("remove", t.remove(2, 6), 1);
        due("remove the only one", t.remove(2, -4), 1);
        due("remove from an empty set", t.remove(2, -4), 0);
        holds(t, 2);
        JoinTrees u = new JoinTrees();
        fill(u, 3, 1, 20);
        due("remove from a full set", u.remove(3, 20), 1);
        due("add where one was taken out", u.add(3, 0), 1);
        holdsRun(u, 3, 0, 19);
        JoinTrees v = allDifferent();
        for (int s : NO_SETS) {
            due("remove from no set", v.remove(s, 1), JoinTrees.BAD);
        }
        isAllDifferent(v);
    }

    private static void has() {
        promise = 4;
        JoinTrees t = with(3, LEAST, 1, 3, GREATEST);
        due("has", t.has(3, LEAST), true);
        due("has", t.has(3, 1), true);
        due("has", t.has(3, 3), true);
        due("has", t.has(3, GREATEST), true);
        due("has", t.has(3, 2), false);
        due("has", t.has(3, 0), false);
        due("has of another set", t.has(2, 1), false);
        t.remove(3, GREATEST);
        due("has after remove", t.has(3, GREATEST), false);
        t.clear(3);
        due("has after clear", t.has(3, 1), false);
        due("has of the empty set", new JoinTrees().has(0, 0), false);
        for (int s : NO_SETS) {
            due("has of no set", t.has(s, 0), false);
        }
    }

    private static void size() {
        promise = 5;
        JoinTrees t = new JoinTrees();
        for (int n = 0; n < 20; n++) {
            due("size", t.size(0), n);
            t.add(0, -n);
            t.add(0, -n);
        }
        due("size of a full set", t.size(0), 20);
        t.add(0, 1);
        due("size after FULL", t.size(0), 20);
        due("size of another set", t.size(1), 0);
        for (int s : NO_SETS) {
            due("size of no set", t.size(s), JoinTrees.BAD);
        }
    }

    private static void at() {
        promise = 6;
        JoinTrees t = with(1, 7, LEAST, GREATEST, -7);
        due("at", t.at(1, 0), LEAST);
        due("at", t.at(1, 1), -7);
        due("at", t.at(1, 2), 7);
        due("at", t.at(1, 3), GREATEST);
        int[] noNumbers = {4, -1, 19, 20, 21, 80, LEAST, GREATEST};
        for (int k : noNumbers) {
            due("at of no number", t.at(1, k), 0);
        }
        fill(t, 2, 1, 20);
        due("at", t.at(2, 19), 20);
        due("at behind a full set", t.at(2, 20), 0);
        due("at before a set", t.at(3, -1), 0);
        t.remove(1, GREATEST);
        due("at after remove", t.at(1, 3), 0);
        t.clear(2);
        due("at after clear", t.at(2, 0), 0);
        for (int s : NO_SETS) {
            due("at of no set", t.at(s, 0), 0);
        }
    }

    private static void rank() {
        promise = 7;
        JoinTrees t = with(0, LEAST, -2, 4, 6, GREATEST);
        due("rank", t.rank(0, LEAST), 0);
        due("rank", t.rank(0, LEAST + 1), 1);
        due("rank", t.rank(0, -2), 1);
        due("rank", t.rank(0, -1), 2);
        due("rank", t.rank(0, 4), 2);
        due("rank", t.rank(0, 5), 3);
        due("rank", t.rank(0, 7), 4);
        due("rank", t.rank(0, GREATEST), 4);
        due("rank in the empty set", t.rank(1, 5), 0);
        fill(t, 2, 1, 20);
        due("rank behind a full set", t.rank(2, 21), 20);
        for (int s : NO_SETS) {
            due("rank in no set", t.rank(s, 0), JoinTrees.BAD);
        }
    }

    private static void combineResults() {
        promise = 8;
        JoinTrees t = with(0, LEAST, 1, 3, 5, 7);
        put(t, 1, 0, 3, 4, 7, 9, GREATEST);
        due("UNITE", t.combine(JoinTrees.UNITE, 2, 0, 1), 9);
        holds(t, 2, LEAST, 0, 1, 3, 4, 5, 7, 9, GREATEST);
        due("MEET", t.combine(JoinTrees.MEET, 2, 0, 1), 2);
        holds(t, 2, 3, 7);
        due("LESS", t.combine(JoinTrees.LESS, 2, 0, 1), 3);
        holds(t, 2, LEAST, 1, 5);
        due("LESS the other way", t.combine(JoinTrees.LESS, 2, 1, 0), 4);
        holds(t, 2, 0, 4, 9, GREATEST);
        due("EITHER", t.combine(JoinTrees.EITHER, 2, 0, 1), 7);
        holds(t, 2, LEAST, 0, 1, 4, 5, 9, GREATEST);
        holds(t, 0, LEAST, 1, 3, 5, 7);
        holds(t, 1, 0, 3, 4, 7, 9, GREATEST);
        due("UNITE with the empty set", t.combine(JoinTrees.UNITE, 2, 0, 3), 5);
        holds(t, 2, LEAST, 1, 3, 5, 7);
        due("EITHER with the empty set", t.combine(JoinTrees.EITHER, 2, 3, 0), 5);
        holds(t, 2, LEAST, 1, 3, 5, 7);
        due("LESS the empty set", t.combine(JoinTrees.LESS, 2, 0, 3), 5);
        due("the empty set LESS another", t.combine(JoinTrees.LESS, 2, 3, 0), 0);
        holds(t, 2);
        due("MEET of a set with itself", t.combine(JoinTrees.MEET, 2, 0, 0), 5);
        holds(t, 2, LEAST, 1, 3, 5, 7);
        due("MEET with the empty set", t.combine(JoinTrees.MEET, 2, 0, 3), 0);
        holds(t, 2);
    }

    private static void combineOntoItsOwnSets() {
        int[] ownSizes = {5, 1, 1, 4};
        int[][] own = {{1, 2, 3, 4, 5}, {3}, {1}, {1, 2, 4, 5}};
        for (int how = 0; how < 4; how++) {
            for (int d = 0; d < 2; d++) {
                JoinTrees t = with(0, 1, 3);
                put(t, 1, 2, 3, 4, 5);
                due("combine " + how + " onto " + d, t.combine(how, d, 0, 1), ownSizes[how]);
                holds(t, d, own[how]);
            }
        }
        int[] selfSizes = {3, 3, 0, 0};
        for (int how = 0; how < 4; how++) {
            JoinTrees t = with(2, 6, 7, 8);
            due("combine " + how + " of one set alone", t.combine(how, 2, 2, 2), selfSizes[how]);
            due("size", t.size(2), selfSizes[how]);
        }
    }

    private static void combineFull() {
        int[] hows = {JoinTrees.UNITE, JoinTrees.EITHER};
        for (int how : hows) {
            JoinTrees t = new JoinTrees();
            fill(t, 0, 1, 20);
            fill(t, 1, 21, 40);
            put(t, 2, 5, 50);
            for (int d = 0; d < 4; d++) {
                due("a result of 40 ints", t.combine(how, d, 0, 1), JoinTrees.FULL);
            }
            holdsRun(t, 0, 1, 20);
            holdsRun(t, 1, 21, 40);
            holds(t, 2, 5, 50);
            holds(t, 3);
            JoinTrees u = new JoinTrees();
            fill(u, 0, 1, 10);
            fill(u, 1, 11, 21);
            due("a result of 21 ints", u.combine(how, 0, 0, 1), JoinTrees.FULL);
            holdsRun(u, 0, 1, 10);
            u.remove(1, 21);
            due("a result of 20 ints", u.combine(how, 0, 0, 1), 20);
            holdsRun(u, 0, 1, 20);
        }
        JoinTrees v = new JoinTrees();
        fill(v, 0, 1, 20);
        fill(v, 1, 1, 20);
        due("UNITE of full sets that are the same", v.combine(JoinTrees.UNITE, 2, 0, 1), 20);
        holdsRun(v, 2, 1, 20);
        due("MEET of full sets", v.combine(JoinTrees.MEET, 3, 0, 1), 20);
        due("EITHER of full sets", v.combine(JoinTrees.EITHER, 3, 0, 1), 0);
        fill(v, 3, 101, 120);
        due("LESS of full sets", v.combine(JoinTrees.LESS, 2, 3, 0), 20);
        holdsRun(v, 2, 101, 120);
    }

    private static void combineBad() {
        JoinTrees t = allDifferent();
        for (int no : NO_SETS) {
            due("no how", t.combine(no, 0, 1, 2), JoinTrees.BAD);
            for (int how = 0; how < 4; how++) {
                due("no d", t.combine(how, no, 1, 2), JoinTrees.BAD);
                due("no a", t.combine(how, 0, no, 2), JoinTrees.BAD);
                due("no b", t.combine(how, 0, 1, no), JoinTrees.BAD);
            }
        }
        isAllDifferent(t);
        JoinTrees u = new JoinTrees();
        fill(u, 0, 1, 20);
        fill(u, 1, 21, 40);
        due("no d, and too many ints", u.combine(JoinTrees.UNITE, 4, 0, 1), JoinTrees.BAD);
    }

    private static void splitIntoAnother() {
        promise = 9;
        JoinTrees t = with(0, LEAST, 1, 3, 5, GREATEST);
        put(t, 1, 2, 100, 200, 300);
        due("split at an int that is there", t.split(0, 3, 1), 3);
        holds(t, 0, LEAST, 1);
        holds(t, 1, 3, 5, GREATEST);
        due("split at an int that is not there", t.split(1, 4, 3), 2);
        holds(t, 1, 3);
        holds(t, 3, 5, GREATEST);
        due("split at the greatest int", t.split(3, GREATEST, 2), 1);
        holds(t, 3, 5);
        holds(t, 2, GREATEST);
        due("split behind all", t.split(0, 2, 3), 0);
        holds(t, 0, LEAST, 1);
        holds(t, 3);
        due("split at the least int", t.split(0, LEAST, 2), 2);
        holds(t, 0);
        holds(t, 2, LEAST, 1);
        due("split of the empty set", t.split(0, 0, 2), 0);
        holds(t, 2);
        JoinTrees u = new JoinTrees();
        fill(u, 3, 1, 20);
        fill(u, 0, 101, 120);
        due("split of a full set onto a full one", u.split(3, 1, 0), 20);
        holdsRun(u, 0, 1, 20);
        holds(u, 3);
    }

    private static void splitOntoItself() {
        JoinTrees t = with(2, LEAST, 1, 3, 5, GREATEST);
        due("split onto itself, all", t.split(2, LEAST, 2), 5);
        holds(t, 2, LEAST, 1, 3, 5, GREATEST);
        due("split onto itself", t.split(2, 2, 2), 3);
        holds(t, 2, 3, 5, GREATEST);
        due("split onto itself at an int that is there", t.split(2, 5, 2), 2);
        holds(t, 2, 5, GREATEST);
        t.remove(2, GREATEST);
        due("split onto itself, none", t.split(2, 6, 2), 0);
        holds(t, 2);
        JoinTrees u = allDifferent();
        for (int no : NO_SETS) {
            due("split of no set", u.split(no, LEAST, 1), JoinTrees.BAD);
            due("split into no set", u.split(1, LEAST, no), JoinTrees.BAD);
            due("split of no set onto itself", u.split(no, LEAST, no), JoinTrees.BAD);
        }
        isAllDifferent(u);
    }

    private static void removeRange() {
        promise = 10;
        JoinTrees t = with(1, LEAST, -5, 0, 5, 10, 15, GREATEST);
        due("removeRange with low > high", t.removeRange(1, 10, 5), 0);
        due("removeRange with low > high", t.removeRange(1, 6, 5), 0);
        due("removeRange with low > high", t.removeRange(1, GREATEST, LEAST), 0);
        due("removeRange between two ints", t.removeRange(1, 6, 9), 0);
        holds(t, 1, LEAST, -5, 0, 5, 10, 15, GREATEST);
        due("removeRange, both included", t.removeRange(1, 0, 10), 3);
        holds(t, 1, LEAST, -5, 15, GREATEST);
        due("removeRange of one int", t.removeRange(1, 15, 15), 1);
        holds(t, 1, LEAST, -5, GREATEST);
        due("removeRange of the greatest", t.removeRange(1, GREATEST, GREATEST), 1);
        holds(t, 1, LEAST, -5);
        due("removeRange of the least", t.removeRange(1, LEAST, LEAST), 1);
        holds(t, 1, -5);
        due("removeRange around", t.removeRange(1, -6, -4), 1);
        due("removeRange of the empty set", t.removeRange(1, LEAST, GREATEST), 0);
        holds(t, 1);
        put(t, 1, LEAST, 0, GREATEST);
        due("removeRange of all", t.removeRange(1, LEAST, GREATEST), 3);
        holds(t, 1);
        fill(t, 3, 1, 20);
        due("removeRange of a full set", t.removeRange(3, 2, 19), 18);
        holds(t, 3, 1, 20);
        JoinTrees u = allDifferent();
        for (int no : NO_SETS) {
            due("removeRange of no set", u.removeRange(no, LEAST, GREATEST), JoinTrees.BAD);
            due("removeRange of no set, low > high", u.removeRange(no, 1, 0), JoinTrees.BAD);
        }
        isAllDifferent(u);
    }

    private static void same() {
        promise = 11;
        JoinTrees t = with(0, 1, 2, LEAST, GREATEST);
        due("same as the empty set", t.same(0, 1), false);
        due("the empty set, same", t.same(1, 0), false);
        due("two empty sets", t.same(1, 2), true);
        due("a set and itself", t.same(0, 0), true);
        put(t, 1, GREATEST, LEAST, 2, 1);
        due("same ints, put in another order", t.same(0, 1), true);
        t.remove(1, GREATEST);
        due("one int fewer", t.same(0, 1), false);
        due("one int more", t.same(1, 0), false);
        t.add(1, 3);
        due("one int is another", t.same(0, 1), false);
        JoinTrees u = new JoinTrees();
        fill(u, 2, 1, 20);
        fill(u, 3, 1, 20);
        due("two full sets", u.same(2, 3), true);
        u.remove(3, 20);
        u.add(3, 21);
        due("full sets that differ in the last", u.same(2, 3), false);
        for (int no : NO_SETS) {
            due("no first set", u.same(no, 0), false);
            due("no second set", u.same(0, no), false);
            due("no set at all", u.same(no, no), false);
        }
    }

    private static void within() {
        promise = 12;
        JoinTrees t = with(0, LEAST, 2, GREATEST);
        put(t, 1, LEAST, 1, 2, 3, GREATEST);
        due("within a greater one", t.within(0, 1), true);
        due("within a smaller one", t.within(1, 0), false);
        due("within itself", t.within(0, 0), true);
        due("the empty set within another", t.within(2, 0), true);
        due("within the empty set", t.within(0, 2), false);
        due("the empty set within the empty set", t.within(2, 3), true);
        t.add(0, 4);
        due("all but one within", t.within(0, 1), false);
        t.add(1, 4);
        due("the one as well", t.within(0, 1), true);
        t.remove(1, GREATEST);
        due("all but the last within", t.within(0, 1), false);
        for (int no : NO_SETS) {
            due("no first set", t.within(no, 0), false);
            due("no second set", t.within(3, no), false);
            due("no set at all", t.within(no, no), false);
        }
    }

    private static void ceiling() {
        promise = 13;
        JoinTrees t = with(3, -10, 0, 10);
        due("ceiling", t.ceiling(3, LEAST), 0);
        due("ceiling", t.ceiling(3, -10), 0);
        due("ceiling", t.ceiling(3, -9), 1);
        due("ceiling", t.ceiling(3, 0), 1);
        due("ceiling", t.ceiling(3, 1), 2);
        due("ceiling", t.ceiling(3, 10), 2);
        due("ceiling behind all", t.ceiling(3, 11), JoinTrees.NONE);
        due("ceiling behind all", t.ceiling(3, GREATEST), JoinTrees.NONE);
        t.add(3, GREATEST);
        due("ceiling at the greatest", t.ceiling(3, GREATEST), 3);
        due("ceiling in the empty set", t.ceiling(0, LEAST), JoinTrees.NONE);
        fill(t, 1, 1, 20);
        due("ceiling in a full set", t.ceiling(1, 20), 19);
        due("ceiling behind a full set", t.ceiling(1, 21), JoinTrees.NONE);
        for (int s : NO_SETS) {
            due("ceiling in no set", t.ceiling(s, 0), JoinTrees.BAD);
        }
    }

    private static void clear() {
        promise = 14;
        JoinTrees t = allDifferent();
        due("clear", t.clear(2), 3);
        holds(t, 0, 10);
        holds(t, 1, 20, 21);
        holds(t, 2);
        holds(t, 3, 40, 41, 42, 43);
        due("clear again", t.clear(2), 0);
        fill(t, 2, 1, 20);
        due("clear of a full set", t.clear(2), 20);
        holds(t, 2);
        fill(t, 2, 31, 50);
        holdsRun(t, 2, 31, 50);
        JoinTrees u = allDifferent();
        for (int s : NO_SETS) {
            due("clear of no set", u.clear(s), JoinTrees.BAD);
        }
        isAllDifferent(u);
    }

    private static void orderAndLimits() {
        promise = 15;
        JoinTrees t = new JoinTrees();
        fill(t, 0, 1, 20);
        for (int x = 1; x <= 20; x++) {
            due("add to a full set of an int that is there", t.add(0, x), 0);
        }
        due("add to a full set of a new int", t.add(0, 0), JoinTrees.FULL);
        holdsRun(t, 0, 1, 20);
    }

    private static JoinTrees with(int s, int... xs) {
        JoinTrees t = new JoinTrees();
        put(t, s, xs);
        return t;
    }

    private static JoinTrees allDifferent() {
        JoinTrees t = with(0, 10);
        put(t, 1, 20, 21);
        put(t, 2, 30, 31, 32);
        put(t, 3, 40, 41, 42, 43);
        return t;
    }

    private static void isAllDifferent(JoinTrees t) {
        holds(t, 0, 10);
        holds(t, 1, 20, 21);
        holds(t, 2, 30, 31, 32);
        holds(t, 3, 40, 41, 42, 43);
    }

    private static void put(JoinTrees t, int s, int... xs) {
        for (int x : xs) {
            due("add(" + s + ", " + x + ")", t.add(s, x), 1);
        }
    }

    private static void fill(JoinTrees t, int s, int first, int last) {
        t.clear(s);
        put(t, s, run(first, last));
    }

    private static void holdsRun(JoinTrees t, int s, int first, int last) {
        holds(t, s, run(first, last));
    }

    private static int[] run(int first, int last) {
        int[] xs = new int[last - first + 1];
        for (int k = 0; k < xs.length; k++) {
            xs[k] = first + k;
        }
        return xs;
    }

    private static void holds(JoinTrees t, int s, int... xs) {
        due("size(" + s + ")", t.size(s), xs.length);
        for (int k = 0; k < xs.length; k++) {
            due("at(" + s + ", " + k + ")", t.at(s, k), xs[k]);
        }
    }

    private static void due(String call, boolean got, boolean want) {
        due(call, got ? 1 : 0, want ? 1 : 0);
    }

    private static void due(String call, int got, int want) {
        if (got != want) {
            wrong++;
            System.out.println("promise " + promise + ": " + call + " answered " + got + ", due is " + want);
        }
    }
}
