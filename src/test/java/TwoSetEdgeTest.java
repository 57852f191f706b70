/** The boundary cases of the calls that name two or three sets, a case for each: promises 8, 9, 11 and 12. */
public final class TwoSetEdgeTest extends Check {
    private static final String[] WAYS = {"UNITE", "MEET", "LESS", "EITHER"};
    private static final int[] GROWING = {JoinTrees.UNITE, JoinTrees.EITHER};
    // What ONE and TWO give, by way.
    private static final int[] ONE = {LEAST, 1, 3, 7};
    private static final int[] TWO = {2, 3, 4, 7, GREATEST};
    private static final int[][] ONE_AND_TWO = {
        {LEAST, 1, 2, 3, 4, 7, GREATEST}, {3, 7}, {LEAST, 1}, {LEAST, 1, 2, 4, GREATEST}};

    public static void main(String[] args) {
        combineRefusals();
        combineFull();
        combineNotFull();
        combineEdges();
        combineSameSets();
        split();
        splitOntoItself();
        same();
        within();
        end();
    }

    private static void combineRefusals() {
        outside("promise 8", "how outside 0..3: BAD", JoinTrees.BAD, (t, how) -> t.combine(how, 0, 1, 2));
        for (int way = 0; way < 4; way++) {
            int how = way;
            String sentence = " outside 0..3: BAD (" + WAYS[how] + ")";
            outside("promise 8", "d" + sentence, JoinTrees.BAD, (t, d) -> t.combine(how, d, 0, 1));
            outside("promise 8", "a" + sentence, JoinTrees.BAD, (t, a) -> t.combine(how, 0, a, 1));
            outside("promise 8", "b" + sentence, JoinTrees.BAD, (t, b) -> t.combine(how, 0, 1, b));
            outside("promise 8", "d, a and b" + sentence, JoinTrees.BAD, (t, no) -> t.combine(how, no, no, no));
        }
        outside("promise 8", "d outside 0..3: BAD (the result would have more than 20 ints)", JoinTrees.BAD,
            (t, d) -> t.combine(JoinTrees.UNITE, d, 1, 2));
    }

    private static void combineFull() {
        for (int how : GROWING) {
            String sentence = "more than 20 ints: FULL, and nothing changes (" + WAYS[how] + ", ";
            that("promise 8", sentence + "21 ints, d another set)", () ->
                unchanged("combine", oneTooMany(), JoinTrees.FULL, t -> t.combine(how, 2, 0, 1)));
            that("promise 8", sentence + "21 ints, d an empty set)", () ->
                unchanged("combine", oneTooMany(), JoinTrees.FULL, t -> t.combine(how, 3, 0, 1)));
            that("promise 8", sentence + "21 ints, d is a)", () ->
                unchanged("combine", oneTooMany(), JoinTrees.FULL, t -> t.combine(how, 0, 0, 1)));
            that("promise 8", sentence + "21 ints, d is b)", () ->
                unchanged("combine", oneTooMany(), JoinTrees.FULL, t -> t.combine(how, 1, 0, 1)));
            that("promise 8", sentence + "40 ints)", () -> {
                for (int d = 0; d < 4; d++) {
                    int set = d;
                    unchanged("combine onto " + d, twoFull(), JoinTrees.FULL, t -> t.combine(how, set, 0, 1));
                }
            });
            that("promise 8", sentence + "a full set and one int more, the least or the greatest)", () -> {
                for (int x : new int[] {LEAST, GREATEST}) {
                    JoinTrees full = filled(0, 1, 20);
                    put(full, 1, x);
                    unchanged("combine", full, JoinTrees.FULL, t -> t.combine(how, 1, 0, 1));
                    unchanged("combine", full, JoinTrees.FULL, t -> t.combine(how, 1, 1, 0));
                }
            });
        }
    }

    private static void combineNotFull() {
        for (int how : GROWING) {
            for (int d = 0; d < 4; d++) {
                int set = d;
                that("promise 8", "else its number of ints (" + WAYS[how] + ", just 20, onto " + d + ")", () -> {
                    JoinTrees t = filled(0, 1, 10);
                    fill(t, 1, 11, 20);
                    put(t, 2, 5, 50);
                    due("combine", t.combine(how, set, 0, 1), 20);
                    holdsRun(t, set, 1, 20);
                });
            }
        }
        that("promise 8", "else its number of ints (EITHER of 21 ints in all, of which one is in both)", () -> {
            JoinTrees t = filled(0, 1, 20);
            put(t, 1, 20, 21);
            due("combine", t.combine(JoinTrees.EITHER, 2, 0, 1), 20);
            holds(t, 2, 1, 2, 3, 4, 5, 6, 7, 8, 9, 10, 11, 12, 13, 14, 15, 16, 17, 18, 19, 21);
        });
        that("promise 8", "else its number of ints (UNITE of two full sets with the same ints)", () -> {
            JoinTrees t = filled(0, 1, 20);
            fill(t, 1, 1, 20);
            due("combine", t.combine(JoinTrees.UNITE, 2, 0, 1), 20);
            holdsRun(t, 2, 1, 20);
        });
        that("promise 8", "else its number of ints (EITHER of two full sets with the same ints)", () -> {
            JoinTrees t = filled(0, 1, 20);
            fill(t, 1, 1, 20);
            due("combine", t.combine(JoinTrees.EITHER, 1, 0, 1), 0);
            holds(t, 1);
        });
        that("promise 8", "else its number of ints (MEET of two full sets without a common int)", () -> {
            JoinTrees t = twoFull();
            due("combine", t.combine(JoinTrees.MEET, 2, 0, 1), 0);
            holds(t, 2);
        });
        that("promise 8", "else its number of ints (LESS of two full sets without a common int)", () -> {
            JoinTrees t = twoFull();
            due("combine", t.combine(JoinTrees.LESS, 2, 1, 0), 20);
            holdsRun(t, 2, 21, 40);
        });
    }

    private static void combineEdges() {
        int[][] withEmpty = {ONE, {}, ONE, ONE};
        int[][] emptyWith = {ONE, {}, {}, ONE};
        for (int way = 0; way < 4; way++) {
            int how = way;
            String name = " (" + WAYS[how] + ")";
            that("promise 8", "set d becomes what is due, and a, b and the fourth stay" + name, () -> {
                JoinTrees t = oneAndTwo();
                due("combine", t.combine(how, 3, 0, 1), ONE_AND_TWO[how].length);
                holds(t, 0, ONE);
                holds(t, 1, TWO);
                holdsRun(t, 2, 11, 30);
                holds(t, 3, ONE_AND_TWO[how]);
            });
            that("promise 8", "set d becomes what is due (d was full)" + name, () -> {
                JoinTrees t = oneAndTwo();
                due("combine", t.combine(how, 2, 0, 1), ONE_AND_TWO[how].length);
                holds(t, 2, ONE_AND_TWO[how]);
                holds(t, 3);
            });
            that("promise 8", "b is empty" + name, () -> {
                JoinTrees t = oneAndTwo();
                due("combine", t.combine(how, 2, 0, 3), withEmpty[how].length);
                holds(t, 2, withEmpty[how]);
            });
            that("promise 8", "a is empty" + name, () -> {
                JoinTrees t = oneAndTwo();
                due("combine", t.combine(how, 2, 3, 0), emptyWith[how].length);
                holds(t, 2, emptyWith[how]);
            });
            that("promise 8", "a and b are empty, and d becomes so" + name, () -> {
                JoinTrees t = filled(2, 1, 20);
                due("combine", t.combine(how, 2, 0, 1), 0);
                holds(t, 2);
            });
        }
        that("promise 8", "in a and not in b (a and b are not taken for each other)", () -> {
            JoinTrees t = oneAndTwo();
            due("combine", t.combine(JoinTrees.LESS, 3, 1, 0), 3);
            holds(t, 3, 2, 4, GREATEST);
        });
        that("promise 8", "the least and the greatest int in both sets", () -> {
            int[] sizes = {2, 2, 0, 0};
            for (int how = 0; how < 4; how++) {
                JoinTrees t = with(1, LEAST, GREATEST);
                put(t, 2, LEAST, GREATEST);
                due(WAYS[how], t.combine(how, 3, 1, 2), sizes[how]);
                due("has(3, LEAST)", t.has(3, LEAST), sizes[how] == 2);
                due("has(3, GREATEST)", t.has(3, GREATEST), sizes[how] == 2);
            }
        });
        that("promise 8", "the least int in one set and the greatest in the other", () -> {
            int[][] due = {{LEAST, GREATEST}, {}, {LEAST}, {LEAST, GREATEST}};
            for (int how = 0; how < 4; how++) {
                JoinTrees t = with(1, LEAST);
                put(t, 2, GREATEST);
                due(WAYS[how], t.combine(how, 3, 1, 2), due[how].length);
                holds(t, 3, due[how]);
            }
        });
    }

    private static void combineSameSets() {
        int[][] ofItself = {ONE, ONE, {}, {}};
        for (int way = 0; way < 4; way++) {
            int how = way;
            String name = " (" + WAYS[how] + ")";
            that("promise 8", "d is a" + name, () -> {
                JoinTrees t = oneAndTwo();
                due("combine", t.combine(how, 0, 0, 1), ONE_AND_TWO[how].length);
                holds(t, 0, ONE_AND_TWO[how]);
                holds(t, 1, TWO);
            });
            that("promise 8", "d is b" + name, () -> {
                JoinTrees t = oneAndTwo();
                due("combine", t.combine(how, 1, 0, 1), ONE_AND_TWO[how].length);
                holds(t, 0, ONE);
                holds(t, 1, ONE_AND_TWO[how]);
            });
            that("promise 8", "a is b" + name, () -> {
                JoinTrees t = oneAndTwo();
                due("combine", t.combine(how, 2, 0, 0), ofItself[how].length);
                holds(t, 0, ONE);
                holds(t, 2, ofItself[how]);
            });
            that("promise 8", "d is a and b" + name, () -> {
                JoinTrees t = oneAndTwo();
                due("combine", t.combine(how, 0, 0, 0), ofItself[how].length);
                holds(t, 0, ofItself[how]);
            });
            that("promise 8", "d is a and b, which is full" + name, () -> {
                JoinTrees t = oneAndTwo();
                due("combine", t.combine(how, 2, 2, 2), how <= JoinTrees.MEET ? 20 : 0);
                holds(t, 2, how <= JoinTrees.MEET ? run(11, 30) : new int[0]);
            });
            that("promise 8", "d is a and b, which is empty" + name, () ->
                unchanged("combine", oneAndTwo(), 0, t -> t.combine(how, 3, 3, 3)));
        }
    }

    private static void split() {
        outside("promise 9", "s outside 0..3: BAD", JoinTrees.BAD, (t, s) -> t.split(s, 7, 1));
        outside("promise 9", "d outside 0..3: BAD", JoinTrees.BAD, (t, d) -> t.split(1, 7, d));
        outside("promise 9", "s and d outside 0..3: BAD", JoinTrees.BAD, (t, no) -> t.split(no, 7, no));
        that("promise 9", "at least x (x is there: it goes too)", () -> splitsTo(3, new int[] {LEAST, 1}, 3, 7));
        that("promise 9", "at least x (x is not there)", () -> splitsTo(2, new int[] {LEAST, 1}, 3, 7));
        that("promise 9", "at least x (the last alone)", () -> splitsTo(7, new int[] {LEAST, 1, 3}, 7));
        that("promise 9", "at least x (none: d becomes empty)", () -> splitsTo(8, ONE));
        that("promise 9", "at least x (x the greatest int, which is not there)", () -> splitsTo(GREATEST, ONE));
        that("promise 9", "at least x (x the least int: all)", () -> splitsTo(LEAST, new int[0], ONE));
        that("promise 9", "at least x (all but the least int)", () -> splitsTo(LEAST + 1, new int[] {LEAST}, 1, 3, 7));
        that("promise 9", "at least x (x the greatest int, which is there)", () -> {
            JoinTrees t = oneAndTwo();
            due("split(1, GREATEST, 3)", t.split(1, GREATEST, 3), 1);
            holds(t, 1, 2, 3, 4, 7);
            holds(t, 3, GREATEST);
        });
        that("promise 9", "how many ints d has (s is empty: none, and d's own are gone)", () -> {
            JoinTrees t = oneAndTwo();
            due("split(3, LEAST, 2)", t.split(3, LEAST, 2), 0);
            holds(t, 2);
            holds(t, 3);
        });
        that("promise 9", "how many ints d has (s and d are full: 20, and d's own are gone)", () -> {
            JoinTrees t = twoFull();
            due("split(1, 21, 0)", t.split(1, 21, 0), 20);
            holdsRun(t, 0, 21, 40);
            holds(t, 1);
        });
        that("promise 9", "taken out of s (there is room for them again)", () -> {
            JoinTrees t = filled(0, 1, 20);
            due("split(0, 11, 3)", t.split(0, 11, 3), 10);
            fill(t, 0, 11, 20);
            due("add(0, 21)", t.add(0, 21), JoinTrees.FULL);
            holdsRun(t, 0, 1, 20);
            holdsRun(t, 3, 11, 20);
        });
    }

    private static void splitsTo(int x, int[] left, int... taken) {
        JoinTrees t = oneAndTwo();
        due("split(0, " + x + ", 2)", t.split(0, x, 2), taken.length);
        holds(t, 0, left);
        holds(t, 1, TWO);
        holds(t, 2, taken);
        holds(t, 3);
    }

    private static void splitOntoItself() {
        that("promise 9", "if d is s, only they stay (some)", () -> {
            JoinTrees t = oneAndTwo();
            due("split(0, 2, 0)", t.split(0, 2, 0), 2);
            holds(t, 0, 3, 7);
            holds(t, 1, TWO);
        });
        that("promise 9", "if d is s, only they stay (x itself)", () -> {
            JoinTrees t = oneAndTwo();
            due("split(0, 3, 0)", t.split(0, 3, 0), 2);
            holds(t, 0, 3, 7);
        });
        that("promise 9", "if d is s, only they stay (all)", () ->
            unchanged("split(0, LEAST, 0)", oneAndTwo(), 4, t -> t.split(0, LEAST, 0)));
        that("promise 9", "if d is s, only they stay (none)", () -> {
            JoinTrees t = oneAndTwo();
            due("split(0, 8, 0)", t.split(0, 8, 0), 0);
            holds(t, 0);
        });
        that("promise 9", "if d is s, only they stay (the greatest int)", () -> {
            JoinTrees t = oneAndTwo();
            due("split(1, GREATEST, 1)", t.split(1, GREATEST, 1), 1);
            holds(t, 1, GREATEST);
        });
        that("promise 9", "if d is s, only they stay (of an empty set)", () ->
            unchanged("split(3, 0, 3)", oneAndTwo(), 0, t -> t.split(3, 0, 3)));
        that("promise 9", "if d is s, only they stay (all of a full set, then half of it)", () -> {
            JoinTrees t = oneAndTwo();
            unchanged("split(2, 11, 2)", t, 20, u -> u.split(2, 11, 2));
            due("split(2, 21, 2)", t.split(2, 21, 2), 10);
            holdsRun(t, 2, 21, 30);
        });
    }

    private static void same() {
        outside("promise 11", "false for a number outside 0..3 (a)", 0, (t, a) -> t.same(a, 0) ? 1 : 0);
        outside("promise 11", "false for a number outside 0..3 (b)", 0, (t, b) -> t.same(0, b) ? 1 : 0);
        outside("promise 11", "false for a number outside 0..3 (both)", 0, (t, no) -> t.same(no, no) ? 1 : 0);
        that("promise 11", "the same ints (two empty sets)", () -> isSame(true, new int[0], new int[0]));
        that("promise 11", "the same ints (an empty set and another)", () -> isSame(false, new int[0], 0));
        that("promise 11", "the same ints (two full sets)", () -> isSame(true, run(1, 20), run(1, 20)));
        that("promise 11", "the same ints (two full sets, but for the first)", () -> isSame(false, run(1, 20), fullBut(1, 0)));
        that("promise 11", "the same ints (two full sets, but for one in the middle)", () -> isSame(false, fullBut(10, 0), fullBut(11, 0)));
        that("promise 11", "the same ints (two full sets, but for the last)", () -> isSame(false, run(1, 20), fullBut(20, 21)));
        that("promise 11", "the same ints (all but one of a full set)", () -> isSame(false, run(1, 20), run(1, 19)));
        that("promise 11", "the same ints (put in another order)", () -> isSame(true, new int[] {1, 2, 3}, 3, 1, 2));
        that("promise 11", "the same ints (the least and the greatest int)", () -> {
            isSame(true, new int[] {LEAST, GREATEST}, GREATEST, LEAST);
            isSame(false, new int[] {LEAST}, GREATEST);
            isSame(false, new int[] {LEAST, 0}, 0);
            isSame(false, new int[] {0, GREATEST}, 0);
        });
        that("promise 11", "the same ints (a is b: empty, full, neither)", () -> {
            for (int s = 0; s < 4; s++) {
                due("same(" + s + ", " + s + ")", oneAndTwo().same(s, s), true);
            }
        });
        that("promise 11", "the same ints (of one set some were taken out)", () -> {
            JoinTrees t = with(0, 1, 2, 3);
            put(t, 3, 1, 2);
            t.remove(0, 3);
            due("same(0, 3)", t.same(0, 3), true);
        });
        that("promise 11", "whether (nothing changes)", () -> {
            unchanged("same(0, 1)", mixed(), 0, t -> t.same(0, 1) ? 1 : 0);
            unchanged("same(2, 2)", mixed(), 1, t -> t.same(2, 2) ? 1 : 0);
        });
    }

    private static void isSame(boolean want, int[] a, int... b) {
        JoinTrees t = with(0, a);
        put(t, 3, b);
        due("same(0, 3)", t.same(0, 3), want);
        due("same(3, 0)", t.same(3, 0), want);
    }

    private static void within() {
        outside("promise 12", "false for a number outside 0..3 (a)", 0, (t, a) -> t.within(a, 2) ? 1 : 0);
        outside("promise 12", "false for a number outside 0..3 (b)", 0, (t, b) -> t.within(0, b) ? 1 : 0);
        outside("promise 12", "false for a number outside 0..3 (both)", 0, (t, no) -> t.within(no, no) ? 1 : 0);
        that("promise 12", "every int of a is in b (both are empty)", () -> isWithin(true, true, new int[0], new int[0]));
        that("promise 12", "every int of a is in b (a is empty, b is not)", () -> isWithin(true, false, new int[0], 0));
        that("promise 12", "every int of a is in b (a is empty, b is full)", () -> isWithin(true, false, new int[0], run(1, 20)));
        that("promise 12", "every int of a is in b (both are full)", () -> isWithin(true, true, run(1, 20), run(1, 20)));
        that("promise 12", "every int of a is in b (both are full, all but the first)", () -> isWithin(false, false, run(1, 20), fullBut(1, 0)));
        that("promise 12", "every int of a is in b (both are full, all but the last)", () -> isWithin(false, false, run(1, 20), fullBut(20, 21)));
        that("promise 12", "every int of a is in b (both are full, none)", () -> isWithin(false, false, run(1, 20), run(21, 40)));
        that("promise 12", "every int of a is in b (b is full, a is the first, the last, one beside)", () -> {
            isWithin(true, false, new int[] {1}, run(1, 20));
            isWithin(true, false, new int[] {20}, run(1, 20));
            isWithin(false, false, new int[] {0}, run(1, 20));
            isWithin(false, false, new int[] {21}, run(1, 20));
        });
        that("promise 12", "every int of a is in b (all but one in the middle)", () -> isWithin(false, false, new int[] {1, 5, 9}, 1, 4, 6, 9));
        that("promise 12", "every int of a is in b (the least and the greatest int)", () -> {
            isWithin(true, false, new int[] {LEAST, GREATEST}, LEAST, 0, GREATEST);
            isWithin(false, false, new int[] {LEAST}, GREATEST);
            isWithin(false, false, new int[] {LEAST, 0}, 0, GREATEST);
        });
        that("promise 12", "every int of a is in b (a is b: empty, full, neither)", () -> {
            for (int s = 0; s < 4; s++) {
                due("within(" + s + ", " + s + ")", oneAndTwo().within(s, s), true);
            }
        });
        that("promise 12", "every int of a is in b (it no longer is)", () -> {
            JoinTrees t = with(0, 9);
            put(t, 3, 1, 9);
            t.remove(3, 9);
            due("within(0, 3)", t.within(0, 3), false);
        });
        that("promise 12", "whether (nothing changes)", () -> {
            unchanged("within(3, 2)", mixed(), 1, t -> t.within(3, 2) ? 1 : 0);
            unchanged("within(1, 2)", mixed(), 0, t -> t.within(1, 2) ? 1 : 0);
        });
    }

    private static void isWithin(boolean aInB, boolean bInA, int[] a, int... b) {
        JoinTrees t = with(1, a);
        put(t, 2, b);
        due("within(1, 2)", t.within(1, 2), aInB);
        due("within(2, 1)", t.within(2, 1), bInA);
    }

    /** ONE, TWO, a full set and an empty one. */
    private static JoinTrees oneAndTwo() {
        JoinTrees t = with(0, ONE);
        put(t, 1, TWO);
        fill(t, 2, 11, 30);
        return t;
    }

    private static JoinTrees oneTooMany() {
        JoinTrees t = filled(0, 1, 10);
        fill(t, 1, 11, 21);
        put(t, 2, 5, 50);
        return t;
    }

    private static JoinTrees twoFull() {
        JoinTrees t = filled(0, 1, 20);
        fill(t, 1, 21, 40);
        put(t, 2, 5, 50);
        return t;
    }

    /** 1 to 20, but another int in the place of one of them. */
    private static int[] fullBut(int one, int other) {
        int[] xs = run(1, 20);
        xs[one - 1] = other;
        return xs;
    }
}
