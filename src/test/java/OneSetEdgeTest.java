/** The boundary cases of the calls that name one set, a case for each: promises 1 to 7, 10 and 13 to 15. */
public final class OneSetEdgeTest extends Check {
    public static void main(String[] args) {
        terms();
        newObject();
        add();
        remove();
        has();
        size();
        at();
        rank();
        removeRange();
        ceiling();
        clear();
        orderAndLimits();
        end();
    }

    private static void terms() {
        that("What it is", "at most 512 calls (the 512th is still answered)", () -> {
            JoinTrees t = with(0, 1, 2);
            for (int call = 3; call < 512; call++) {
                due("size(0)", t.size(0), 2);
            }
            due("call 512", t.at(0, 1), 2);
        });
        that("What it is", "what later calls answer is free (but none throws)", () -> {
            JoinTrees t = new JoinTrees();
            for (int call = 1; call <= 2000; call++) {
                t.add(call % 4, call);
                t.combine(call % 4, call % 3, 1, 2);
                t.split(call % 2, call - 9, 3);
            }
        });
        that("Terms", "4 SETS, 0 to 3 (the first and the last)", () -> {
            JoinTrees t = with(0, 8);
            put(t, 3, 9);
            holds(t, 0, 8);
            holds(t, 1);
            holds(t, 2);
            holds(t, 3, 9);
        });
        that("Terms", "each has at most 20 (all four full at once)", () -> {
            JoinTrees t = new JoinTrees();
            for (int s = 0; s < 4; s++) {
                fill(t, s, 100 * s, 100 * s + 19);
            }
            for (int s = 0; s < 4; s++) {
                holdsRun(t, s, 100 * s, 100 * s + 19);
                due("add of int 21", t.add(s, -1), JoinTrees.FULL);
            }
        });
        that("Terms", "in ascending order (put in downwards)", () -> {
            JoinTrees t = new JoinTrees();
            for (int x = 20; x >= 1; x--) {
                put(t, 2, x);
            }
            holdsRun(t, 2, 1, 20);
        });
        that("Terms", "in ascending order (ints whose difference wraps around)", () -> {
            JoinTrees t = with(1, 2000000000, -2000000000, GREATEST, 0, LEAST, 1, -1);
            holds(t, 1, LEAST, -2000000000, -1, 0, 1, 2000000000, GREATEST);
        });
    }

    private static void newObject() {
        that("promise 1", "four empty sets (nothing is in them, nor is 0)", () -> {
            for (int s = 0; s < 4; s++) {
                JoinTrees t = new JoinTrees();
                due("size(" + s + ")", t.size(s), 0);
                due("has(" + s + ", 0)", t.has(s, 0), false);
                due("at(" + s + ", 0)", t.at(s, 0), 0);
                due("rank(" + s + ", GREATEST)", t.rank(s, GREATEST), 0);
                due("ceiling(" + s + ", LEAST)", t.ceiling(s, LEAST), JoinTrees.NONE);
                due("clear(" + s + ")", t.clear(s), 0);
            }
        });
        that("promise 1", "four empty sets (while another object's are not)", () -> {
            JoinTrees first = mixed();
            JoinTrees second = new JoinTrees();
            for (int s = 0; s < 4; s++) {
                holds(second, s);
            }
            put(second, 0, 1, 2, 3);
            holds(first, 0, 7);
        });
    }

    private static void add() {
        outside("promise 2", "s outside 0..3: BAD", JoinTrees.BAD, (t, s) -> t.add(s, 8));
        that("promise 2", "it is there: 0 (first, in the middle, last), and nothing changes", () -> {
            for (int x : new int[] {1, 5, 9}) {
                unchanged("add(3, " + x + ")", with(3, 1, 5, 9), 0, t -> t.add(3, x));
            }
        });
        that("promise 2", "it is there: 0 (the least and the greatest int), and nothing changes", () -> {
            unchanged("add(1, LEAST)", mixed(), 0, t -> t.add(1, LEAST));
            unchanged("add(1, GREATEST)", mixed(), 0, t -> t.add(1, GREATEST));
        });
        that("promise 2", "20 ints are there: FULL (before, between, behind them), and nothing changes", () -> {
            for (int s = 0; s < 4; s++) {
                int set = s;
                for (int x : new int[] {LEAST, 0, 55, 110, GREATEST}) {
                    JoinTrees full = filled(s, 46, 54);
                    fill(full, s, 56, 66);
                    unchanged("add(" + s + ", " + x + ")", full, JoinTrees.FULL, t -> t.add(set, x));
                }
            }
        });
        that("promise 2", "else 1 (19 ints are there; the 20th goes before, between, behind them)", () -> {
            for (int x : new int[] {1, 10, 20}) {
                JoinTrees t = filled(2, 1, 20);
                due("remove", t.remove(2, x), 1);
                due("add of int 20", t.add(2, x), 1);
                holdsRun(t, 2, 1, 20);
            }
        });
        that("promise 2", "else 1 (into an empty set; 0 too)", () -> {
            for (int x : new int[] {LEAST, -1, 0, 1, GREATEST}) {
                JoinTrees t = new JoinTrees();
                due("add(0, " + x + ")", t.add(0, x), 1);
                holds(t, 0, x);
            }
        });
        that("promise 2", "else 1 (the least and the greatest int)", () -> {
            JoinTrees t = with(3, LEAST + 1, GREATEST - 1);
            due("add(3, GREATEST)", t.add(3, GREATEST), 1);
            due("add(3, LEAST)", t.add(3, LEAST), 1);
            holds(t, 3, LEAST, LEAST + 1, GREATEST - 1, GREATEST);
        });
        that("promise 2", "else 1 (it is there in another set, and another set is full)", () -> {
            JoinTrees t = filled(1, 1, 20);
            due("add(0, 5)", t.add(0, 5), 1);
            due("add(2, 5)", t.add(2, 5), 1);
            holds(t, 0, 5);
            holdsRun(t, 1, 1, 20);
            holds(t, 2, 5);
        });
    }

    private static void remove() {
        outside("promise 3", "s outside 0..3: BAD", JoinTrees.BAD, (t, s) -> t.remove(s, 7));
        that("promise 3", "1 if it was there (the first)", () -> {
            JoinTrees t = with(2, 1, 5, 9);
            due("remove(2, 1)", t.remove(2, 1), 1);
            holds(t, 2, 5, 9);
        });
        that("promise 3", "1 if it was there (the last, after which its cell isn't seen)", () -> {
            JoinTrees t = with(2, 1, 5, 9);
            due("remove(2, 9)", t.remove(2, 9), 1);
            holds(t, 2, 1, 5);
            due("remove(2, 9) again", t.remove(2, 9), 0);
        });
        that("promise 3", "1 if it was there (the only one)", () -> {
            JoinTrees t = with(0, 0);
            due("remove(0, 0)", t.remove(0, 0), 1);
            holds(t, 0);
            due("remove(0, 0) again", t.remove(0, 0), 0);
        });
        that("promise 3", "1 if it was there (any of a full set)", () -> {
            for (int x = 1; x <= 20; x++) {
                JoinTrees t = filled(3, 1, 20);
                due("remove(3, " + x + ")", t.remove(3, x), 1);
                due("has(3, " + x + ")", t.has(3, x), false);
                due("size(3)", t.size(3), 19);
                due("at(3, 18)", t.at(3, 18), x == 20 ? 19 : 20);
            }
        });
        that("promise 3", "1 if it was there (the least and the greatest int)", () -> {
            JoinTrees t = with(1, LEAST, 0, GREATEST);
            due("remove(1, LEAST)", t.remove(1, LEAST), 1);
            due("remove(1, GREATEST)", t.remove(1, GREATEST), 1);
            holds(t, 1, 0);
        });
        that("promise 3", "else 0 (before, between, behind the ints of the set), and nothing changes", () -> {
            for (int x : new int[] {LEAST, 4, 6, 8, 10, GREATEST}) {
                unchanged("remove(0, " + x + ")", with(0, 5, 7, 9), 0, t -> t.remove(0, x));
            }
        });
        that("promise 3", "else 0 (not in a full set), and nothing changes", () -> {
            unchanged("remove(2, 0)", mixed(), 0, t -> t.remove(2, 0));
            unchanged("remove(2, 21)", mixed(), 0, t -> t.remove(2, 21));
        });
        that("promise 3", "else 0 (it is in another set only), and nothing changes", () ->
            unchanged("remove(0, 5)", mixed(), 0, t -> t.remove(0, 5)));
        that("promise 3", "else 0 (of an empty set; 0 too)", () -> {
            for (int x : new int[] {LEAST, 0, GREATEST}) {
                unchanged("remove(0, " + x + ")", new JoinTrees(), 0, t -> t.remove(0, x));
            }
        });
    }

    private static void has() {
        outside("promise 4", "false for s outside 0..3", 0, (t, s) -> t.has(s, 7) ? 1 : 0);
        that("promise 4", "whether an int is in a set (an empty one)", () -> {
            for (int x : new int[] {LEAST, 0, GREATEST}) {
                due("has(2, " + x + ")", new JoinTrees().has(2, x), false);
            }
        });
        that("promise 4", "whether an int is in a set (a full one)", () -> {
            JoinTrees t = filled(1, 1, 20);
            for (int x = 0; x <= 21; x++) {
                due("has(1, " + x + ")", t.has(1, x), x >= 1 && x <= 20);
            }
        });
        that("promise 4", "whether an int is in a set (the least and the greatest int)", () -> {
            JoinTrees t = with(0, LEAST, GREATEST);
            put(t, 1, LEAST + 1, GREATEST - 1);
            due("has(0, LEAST)", t.has(0, LEAST), true);
            due("has(0, GREATEST)", t.has(0, GREATEST), true);
            due("has(1, LEAST)", t.has(1, LEAST), false);
            due("has(1, GREATEST)", t.has(1, GREATEST), false);
        });
        that("promise 4", "whether an int is in a set (it no longer is)", () -> {
            JoinTrees t = with(3, 1, 2, 3);
            t.remove(3, 3);
            due("has(3, 3) after remove", t.has(3, 3), false);
            t.clear(3);
            due("has(3, 1) after clear", t.has(3, 1), false);
        });
        that("promise 4", "whether an int is in a set (nothing changes)", () -> {
            unchanged("has(1, 7)", mixed(), 1, t -> t.has(1, 7) ? 1 : 0);
            unchanged("has(1, 8)", mixed(), 0, t -> t.has(1, 8) ? 1 : 0);
        });
    }

    private static void size() {
        outside("promise 5", "BAD for s outside 0..3", JoinTrees.BAD, (t, s) -> t.size(s));
        that("promise 5", "the number of ints (none)", () -> due("size(1)", with(0, 1).size(1), 0));
        that("promise 5", "the number of ints (0 to 20)", () -> {
            JoinTrees t = new JoinTrees();
            for (int n = 0; n < 20; n++) {
                due("size(3)", t.size(3), n);
                due("add(3, " + -n + ")", t.add(3, -n), 1);
            }
            due("size(3) of a full set", t.size(3), 20);
        });
        that("promise 5", "the number of ints (after an add that was answered 0, and one that was answered FULL)", () -> {
            JoinTrees t = filled(2, 1, 19);
            due("add(2, 19)", t.add(2, 19), 0);
            due("size(2)", t.size(2), 19);
            put(t, 2, 20);
            due("add(2, 21)", t.add(2, 21), JoinTrees.FULL);
            due("size(2)", t.size(2), 20);
        });
    }

    private static void at() {
        outside("promise 6", "0 if there is none (no such set)", 0, (t, s) -> t.at(s, 0));
        that("promise 6", "0 if there is none (k too small)", () -> {
            for (int k : TOO_SMALL) {
                due("at(1, " + k + ")", filled(1, 1, 20).at(1, k), 0);
            }
        });
        that("promise 6", "0 if there is none (k too large for the set)", () -> {
            JoinTrees t = with(1, 4, 5, 6);
            for (int k : new int[] {3, 4, 19, 20, 79, 80, 1 << 30, GREATEST}) {
                due("at(1, " + k + ")", t.at(1, k), 0);
            }
        });
        that("promise 6", "0 if there is none (the set is empty)", () -> {
            JoinTrees t = filled(0, 1, 20);
            fill(t, 2, 1, 20);
            for (int k : new int[] {-20, -1, 0, 1, 19, 20}) {
                due("at(1, " + k + ")", t.at(1, k), 0);
            }
        });
        that("promise 6", "0 if there is none (the sets beside it are full)", () -> {
            JoinTrees t = new JoinTrees();
            for (int s = 0; s < 4; s++) {
                fill(t, s, 101, 120);
            }
            for (int s = 0; s < 4; s++) {
                due("at(" + s + ", -1)", t.at(s, -1), 0);
                due("at(" + s + ", 20)", t.at(s, 20), 0);
            }
        });
        that("promise 6", "0 if there is none (there no longer is)", () -> {
            JoinTrees t = with(3, 7, 8, 9);
            t.remove(3, 8);
            due("at(3, 2) after remove", t.at(3, 2), 0);
            t.clear(3);
            due("at(3, 0) after clear", t.at(3, 0), 0);
        });
        that("promise 6", "int number k (the first and the last of a full set)", () -> {
            JoinTrees t = filled(2, 1, 20);
            due("at(2, 0)", t.at(2, 0), 1);
            due("at(2, 19)", t.at(2, 19), 20);
        });
        that("promise 6", "int number k (the least and the greatest int)", () -> {
            JoinTrees t = with(0, GREATEST, 0, LEAST);
            due("at(0, 0)", t.at(0, 0), LEAST);
            due("at(0, 1)", t.at(0, 1), 0);
            due("at(0, 2)", t.at(0, 2), GREATEST);
        });
    }

    private static void rank() {
        outside("promise 7", "BAD for s outside 0..3", JoinTrees.BAD, (t, s) -> t.rank(s, 8));
        that("promise 7", "the number that are smaller than x (of an empty set)", () -> {
            for (int x : new int[] {LEAST, 0, 1, GREATEST}) {
                due("rank(0, " + x + ")", with(1, LEAST).rank(0, x), 0);
            }
        });
        that("promise 7", "the number that are smaller than x (of a full set: none to all)", () -> {
            JoinTrees t = filled(3, 1, 20);
            for (int x = 0; x <= 21; x++) {
                due("rank(3, " + x + ")", t.rank(3, x), Math.max(0, x - 1));
            }
        });
        that("promise 7", "the number that are smaller than x (x itself isn't counted, nor need it be there)", () -> {
            JoinTrees t = with(2, 10, 20, 30);
            due("rank(2, 20)", t.rank(2, 20), 1);
            due("rank(2, 21)", t.rank(2, 21), 2);
            due("rank(2, 19)", t.rank(2, 19), 1);
        });
        that("promise 7", "the number that are smaller than x (x the least int)", () ->
            due("rank(1, LEAST)", mixed().rank(1, LEAST), 0));
        that("promise 7", "the number that are smaller than x (x the greatest int, there and not there)", () -> {
            due("rank(1, GREATEST)", mixed().rank(1, GREATEST), 4);
            due("rank(2, GREATEST)", mixed().rank(2, GREATEST), 20);
        });
    }

    private static void removeRange() {
        outside("promise 10", "BAD for s outside 0..3", JoinTrees.BAD, (t, s) -> t.removeRange(s, LEAST, GREATEST));
        outside("promise 10", "BAD for s outside 0..3 (low > high as well)", JoinTrees.BAD, (t, s) -> t.removeRange(s, 8, 7));
        that("promise 10", "0 if low > high, and nothing changes", () -> {
            unchanged("removeRange(2, 8, 7)", mixed(), 0, t -> t.removeRange(2, 8, 7));
            unchanged("removeRange(2, 20, 1)", mixed(), 0, t -> t.removeRange(2, 20, 1));
            unchanged("removeRange(3, 100, -100)", mixed(), 0, t -> t.removeRange(3, 100, -100));
        });
        that("promise 10", "0 if low > high (the greatest and the least int), and nothing changes", () ->
            unchanged("removeRange(1, GREATEST, LEAST)", mixed(), 0, t -> t.removeRange(1, GREATEST, LEAST)));
        that("promise 10", "both included (and their neighbours are not)", () -> {
            JoinTrees t = filled(0, 1, 20);
            due("removeRange(0, 5, 15)", t.removeRange(0, 5, 15), 11);
            holds(t, 0, 1, 2, 3, 4, 16, 17, 18, 19, 20);
        });
        that("promise 10", "both included (low and high are the same)", () -> {
            JoinTrees t = with(3, 4, 5, 6);
            due("removeRange(3, 5, 5)", t.removeRange(3, 5, 5), 1);
            holds(t, 3, 4, 6);
            unchanged("removeRange(3, 5, 5) again", t, 0, u -> u.removeRange(3, 5, 5));
        });
        that("promise 10", "both included (the least int)", () -> {
            JoinTrees t = with(1, LEAST, LEAST + 1, 0, GREATEST);
            due("removeRange(1, LEAST, LEAST)", t.removeRange(1, LEAST, LEAST), 1);
            holds(t, 1, LEAST + 1, 0, GREATEST);
        });
        that("promise 10", "both included (the greatest int)", () -> {
            JoinTrees t = with(1, LEAST, 0, GREATEST - 1, GREATEST);
            due("removeRange(1, GREATEST, GREATEST)", t.removeRange(1, GREATEST, GREATEST), 1);
            holds(t, 1, LEAST, 0, GREATEST - 1);
        });
        that("promise 10", "all ints from low to high (from the least to the greatest)", () -> {
            JoinTrees t = with(1, LEAST, -1, 0, 1, GREATEST);
            due("removeRange(1, LEAST, GREATEST)", t.removeRange(1, LEAST, GREATEST), 5);
            holds(t, 1);
        });
        that("promise 10", "how many there were (of an empty set)", () ->
            unchanged("removeRange(0, LEAST, GREATEST)", new JoinTrees(), 0, t -> t.removeRange(0, LEAST, GREATEST)));
        that("promise 10", "how many there were (a full set's 20, after which 20 others go in)", () -> {
            JoinTrees t = filled(3, 1, 20);
            due("removeRange(3, 1, 20)", t.removeRange(3, 1, 20), 20);
            holds(t, 3);
            fill(t, 3, 31, 50);
            holdsRun(t, 3, 31, 50);
        });
        that("promise 10", "how many there were (none before, between, behind the ints), and nothing changes", () -> {
            unchanged("removeRange(1, 1, 6)", mixed(), 0, t -> t.removeRange(1, 1, 6));
            unchanged("removeRange(2, LEAST, 0)", mixed(), 0, t -> t.removeRange(2, LEAST, 0));
            unchanged("removeRange(2, 21, GREATEST)", mixed(), 0, t -> t.removeRange(2, 21, GREATEST));
        });
        that("promise 10", "out of a set (not out of the others)", () -> {
            JoinTrees t = mixed();
            due("removeRange(2, 1, 19)", t.removeRange(2, 1, 19), 19);
            holds(t, 0, 7);
            holds(t, 1, LEAST, -7, 0, 7, GREATEST);
            holds(t, 2, 20);
            holds(t, 3, 5, 6, 7);
        });
    }

    private static void ceiling() {
        outside("promise 13", "BAD for s outside 0..3", JoinTrees.BAD, (t, s) -> t.ceiling(s, 7));
        that("promise 13", "NONE if there is none (the set is empty)", () -> {
            for (int x : new int[] {LEAST, 0, GREATEST}) {
                due("ceiling(0, " + x + ")", with(1, GREATEST).ceiling(0, x), JoinTrees.NONE);
            }
        });
        that("promise 13", "NONE if there is none (x behind all, of a full set too)", () -> {
            due("ceiling(3, 8)", mixed().ceiling(3, 8), JoinTrees.NONE);
            due("ceiling(2, 21)", mixed().ceiling(2, 21), JoinTrees.NONE);
        });
        that("promise 13", "NONE if there is none (x the greatest int)", () ->
            due("ceiling(2, GREATEST)", mixed().ceiling(2, GREATEST), JoinTrees.NONE));
        that("promise 13", "NONE if there is none (there no longer is)", () -> {
            JoinTrees t = with(0, 1, 9);
            t.remove(0, 9);
            due("ceiling(0, 5)", t.ceiling(0, 5), JoinTrees.NONE);
        });
        that("promise 13", "at least x (x itself, and between two ints)", () -> {
            JoinTrees t = with(0, 10, 20, 30);
            due("ceiling(0, 20)", t.ceiling(0, 20), 1);
            due("ceiling(0, 21)", t.ceiling(0, 21), 2);
            due("ceiling(0, 19)", t.ceiling(0, 19), 1);
        });
        that("promise 13", "at least x (the first and the last of a full set)", () -> {
            due("ceiling(2, 0)", mixed().ceiling(2, 0), 0);
            due("ceiling(2, 1)", mixed().ceiling(2, 1), 0);
            due("ceiling(2, 20)", mixed().ceiling(2, 20), 19);
        });
        that("promise 13", "at least x (x the least int, there and not there)", () -> {
            due("ceiling(1, LEAST)", mixed().ceiling(1, LEAST), 0);
            due("ceiling(2, LEAST)", mixed().ceiling(2, LEAST), 0);
        });
        that("promise 13", "at least x (x the greatest int, which is there)", () ->
            due("ceiling(1, GREATEST)", mixed().ceiling(1, GREATEST), 4));
    }

    private static void clear() {
        outside("promise 14", "BAD for s outside 0..3", JoinTrees.BAD, (t, s) -> t.clear(s));
        that("promise 14", "how many ints it had (none)", () ->
            unchanged("clear(0)", with(1, 1), 0, t -> t.clear(0)));
        that("promise 14", "how many ints it had (none the second time)", () -> {
            JoinTrees t = with(1, 1, 2);
            due("clear(1)", t.clear(1), 2);
            due("clear(1) again", t.clear(1), 0);
        });
        that("promise 14", "how many ints it had (a full set's 20, after which 20 others go in)", () -> {
            JoinTrees t = filled(3, 1, 20);
            due("clear(3)", t.clear(3), 20);
            fill(t, 3, -20, -1);
            holdsRun(t, 3, -20, -1);
        });
        that("promise 14", "makes a set empty (nothing of it is seen)", () -> {
            JoinTrees t = mixed();
            due("clear(1)", t.clear(1), 5);
            holds(t, 1);
            due("has(1, LEAST)", t.has(1, LEAST), false);
            due("at(1, 0)", t.at(1, 0), 0);
            due("rank(1, GREATEST)", t.rank(1, GREATEST), 0);
            due("ceiling(1, LEAST)", t.ceiling(1, LEAST), JoinTrees.NONE);
        });
        that("promise 14", "makes a set empty (not the others)", () -> {
            JoinTrees t = mixed();
            due("clear(2)", t.clear(2), 20);
            holds(t, 0, 7);
            holds(t, 1, LEAST, -7, 0, 7, GREATEST);
            holds(t, 2);
            holds(t, 3, 5, 6, 7);
        });
    }

    private static void orderAndLimits() {
        that("promise 15", "that the int is there (0) is tested before FULL (any of a full set)", () -> {
            JoinTrees t = filled(1, 1, 20);
            for (int x = 1; x <= 20; x++) {
                due("add(1, " + x + ")", t.add(1, x), 0);
            }
            holdsRun(t, 1, 1, 20);
        });
        that("promise 15", "that the int is there (0) is tested before FULL (the least and the greatest int)", () -> {
            JoinTrees t = filled(0, 1, 18);
            put(t, 0, GREATEST, LEAST);
            unchanged("add(0, LEAST)", t, 0, u -> u.add(0, LEAST));
            unchanged("add(0, GREATEST)", t, 0, u -> u.add(0, GREATEST));
        });
    }
}
