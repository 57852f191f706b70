/** The promises one by one on ordinary inputs; their boundary cases are in the two edge tests. */
public final class PromiseTest extends Check {
    public static void main(String[] args) {
        that("promise 1", "a new object", PromiseTest::newObject);
        that("promise 2", "add", PromiseTest::add);
        that("promise 3", "remove", PromiseTest::remove);
        that("promise 4", "has", PromiseTest::has);
        that("promise 5", "size", PromiseTest::size);
        that("promise 6", "at", PromiseTest::at);
        that("promise 7", "rank", PromiseTest::rank);
        that("promise 8", "combine", PromiseTest::combine);
        that("promise 9", "split", PromiseTest::split);
        that("promise 10", "removeRange", PromiseTest::removeRange);
        that("promise 11", "same", PromiseTest::same);
        that("promise 12", "within", PromiseTest::within);
        that("promise 13", "ceiling", PromiseTest::ceiling);
        that("promise 14", "clear", PromiseTest::clear);
        that("promise 15", "order and limits", PromiseTest::orderAndLimits);
        end();
    }

    private static void newObject() {
        JoinTrees t = new JoinTrees();
        for (int s = 0; s < 4; s++) {
            holds(t, s);
        }
    }

    private static void add() {
        JoinTrees t = new JoinTrees();
        for (int x : new int[] {5, -3, 0, 9, -1}) {
            due("add of a new int", t.add(1, x), 1);
            due("add of an int that is there", t.add(1, x), 0);
        }
        holds(t, 0);
        holds(t, 1, -3, -1, 0, 5, 9);
        holds(t, 2);
    }

    private static void remove() {
        JoinTrees t = with(2, -4, 0, 6);
        put(t, 3, 0, 5);
        due("remove in the middle", t.remove(2, 0), 1);
        due("remove of an int that is not there", t.remove(2, 5), 0);
        holds(t, 2, -4, 6);
        holds(t, 3, 0, 5);
    }

    private static void has() {
        JoinTrees t = with(3, 1, 3);
        put(t, 0, 2);
        for (int x = 0; x <= 4; x++) {
            due("has(3, " + x + ")", t.has(3, x), x == 1 || x == 3);
            due("has(0, " + x + ")", t.has(0, x), x == 2);
        }
    }

    private static void size() {
        JoinTrees t = with(0, 4, 5, 6);
        put(t, 2, 7);
        due("size(0)", t.size(0), 3);
        due("size(2)", t.size(2), 1);
        t.remove(0, 5);
        due("size(0)", t.size(0), 2);
    }

    private static void at() {
        JoinTrees t = with(1, 7, -7, 3);
        due("at(1, 0)", t.at(1, 0), -7);
        due("at(1, 1)", t.at(1, 1), 3);
        due("at(1, 2)", t.at(1, 2), 7);
    }

    private static void rank() {
        JoinTrees t = with(0, -2, 4, 6);
        due("rank(0, -3)", t.rank(0, -3), 0);
        due("rank(0, 4)", t.rank(0, 4), 1);
        due("rank(0, 5)", t.rank(0, 5), 2);
        due("rank(0, 7)", t.rank(0, 7), 3);
    }

    private static void combine() {
        JoinTrees t = with(0, 1, 3, 5, 7);
        put(t, 1, 0, 3, 4, 7, 9);
        due("UNITE", t.combine(JoinTrees.UNITE, 2, 0, 1), 7);
        holds(t, 2, 0, 1, 3, 4, 5, 7, 9);
        due("MEET", t.combine(JoinTrees.MEET, 2, 0, 1), 2);
        holds(t, 2, 3, 7);
        due("LESS", t.combine(JoinTrees.LESS, 2, 0, 1), 2);
        holds(t, 2, 1, 5);
        due("EITHER", t.combine(JoinTrees.EITHER, 2, 0, 1), 5);
        holds(t, 2, 0, 1, 4, 5, 9);
        holds(t, 0, 1, 3, 5, 7);
        holds(t, 1, 0, 3, 4, 7, 9);
    }

    private static void split() {
        JoinTrees t = with(0, 1, 3, 5, 8);
        put(t, 1, 100, 200, 300);
        due("split into another set", t.split(0, 3, 1), 3);
        holds(t, 0, 1);
        holds(t, 1, 3, 5, 8);
        due("split onto itself", t.split(1, 4, 1), 2);
        holds(t, 1, 5, 8);
    }

    private static void removeRange() {
        JoinTrees t = with(1, -5, 0, 5, 10, 15);
        due("removeRange(1, 0, 12)", t.removeRange(1, 0, 12), 3);
        holds(t, 1, -5, 15);
    }

    private static void same() {
        JoinTrees t = with(0, 1, 2);
        put(t, 1, 2, 1);
        put(t, 2, 1, 3);
        due("same(0, 1)", t.same(0, 1), true);
        due("same(0, 2)", t.same(0, 2), false);
    }

    private static void within() {
        JoinTrees t = with(0, 2, 4);
        put(t, 1, 1, 2, 3, 4);
        due("within(0, 1)", t.within(0, 1), true);
        due("within(1, 0)", t.within(1, 0), false);
    }

    private static void ceiling() {
        JoinTrees t = with(3, -10, 0, 10);
        due("ceiling(3, -20)", t.ceiling(3, -20), 0);
        due("ceiling(3, 0)", t.ceiling(3, 0), 1);
        due("ceiling(3, 1)", t.ceiling(3, 1), 2);
        due("ceiling(3, 11)", t.ceiling(3, 11), JoinTrees.NONE);
    }

    private static void clear() {
        JoinTrees t = with(2, 1, 2, 3);
        put(t, 1, 4);
        due("clear(2)", t.clear(2), 3);
        holds(t, 2);
        holds(t, 1, 4);
    }

    private static void orderAndLimits() {
        JoinTrees t = filled(0, 1, 20);
        due("add to a full set of an int that is there", t.add(0, 10), 0);
        due("add to a full set of a new int", t.add(0, 21), JoinTrees.FULL);
        holdsRun(t, 0, 1, 20);
    }
}
