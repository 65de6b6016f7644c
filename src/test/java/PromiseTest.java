/** A test for each promise of the document: ordinary inputs, the edges it names, wrong inputs. */
public final class PromiseTest {
    private static final int BAD_ARG = -1;
    private static final int FULL = -2;
    private static final int NONE = -4;
    private static final int NO_SUM = 1000;
    private static final int LOWEST = Integer.MIN_VALUE;
    private static final int HIGHEST = Integer.MAX_VALUE;

    private static final Check check = new Check("PromiseTest");

    public static void main(String[] args) {
        constants();
        newObject();
        factor();
        linear();
        linearKeepsItsOwnFactors();
        differ();
        either();
        eitherOnEveryAssignment();
        constraints();
        force();
        clear();
        clearForgetsTheOldConstraints();
        solvable();
        value();
        firstWith();
        values();
        after();
        smallest();
        blame();
        blameAmongOutOfForce();
        follows();
        theFirstAssignmentAlone();
        theLastAssignmentAlone();
        objectsAreApart();
        check.end();
    }

    private static void due(String what, long got, long want) {
        check.due(what, got, want);
    }

    private static void due(String what, boolean got, boolean want) {
        check.due(what, got, want);
    }

    private static void constants() {
        due("BAD_ARG", LazyClauseSolver.BAD_ARG, BAD_ARG);
        due("FULL", LazyClauseSolver.FULL, FULL);
        due("NONE", LazyClauseSolver.NONE, NONE);
        due("NO_SUM", LazyClauseSolver.NO_SUM, NO_SUM);
    }

    private static void newObject() {
        LazyClauseSolver s = new LazyClauseSolver();
        due("1: constraints", s.constraints(), 0);
        due("1: solvable", s.solvable(), true);
        due("1: solutions", Setup.solutions(s), 256);
        due("1: smallest", s.smallest(), 0);
        due("1: blame", s.blame(), 0);
        for (int i = 0; i < 4; i++) {
            due("1: values", s.values(i), 15);
            due("1: value", s.value(i), 0);
            due("1: factor held at first", s.factor(i, 0), 0);
        }
        LazyClauseSolver zero = new LazyClauseSolver();
        due("1: linear with no factor given", zero.linear(0), 0);
        due("1: all factors are 0", Setup.solutions(zero), 256);
    }

    private static void factor() {
        LazyClauseSolver s = new LazyClauseSolver();
        for (int i = 0; i < 4; i++) {
            due("2: before", s.factor(i, 5), 0);
            due("2: greatest", s.factor(i, -5), 5);
            due("2: least", s.factor(i, i), -5);
        }
        int[] badVariables = {-1, 4, LOWEST, HIGHEST};
        for (int i : badVariables) {
            due("2: no variable " + i, s.factor(i, 0), BAD_ARG);
        }
        int[] badFactors = {-6, 6, LOWEST, HIGHEST};
        for (int a : badFactors) {
            due("2: no factor " + a, s.factor(2, a), BAD_ARG);
        }
        for (int i = 0; i < 4; i++) {
            due("2: refused ones change nothing", s.factor(i, i), i);
        }
        s.linear(0);
        s.smallest();
        due("2: stays held after linear and smallest", s.factor(3, 3), 3);
        LazyClauseSolver minusOne = new LazyClauseSolver();
        minusOne.factor(1, -1);
        due("2: a factor of -1 before", minusOne.factor(1, 2), -1);
        due("2: after it", minusOne.factor(1, 2), 2);
    }

    private static void linear() {
        LazyClauseSolver s = new LazyClauseSolver();
        Setup.hold(s, 5, 5, 5, 5);
        due("3: b = 61", s.linear(61), BAD_ARG);
        due("3: b = -61", s.linear(-61), BAD_ARG);
        due("3: b lowest", s.linear(LOWEST), BAD_ARG);
        due("3: b highest", s.linear(HIGHEST), BAD_ARG);
        due("3: none made", s.constraints(), 0);
        due("3: b = 60", s.linear(60), 0);
        due("3: everything is up to 60", Setup.solutions(s), 256);
        due("3: b = 59", s.linear(59), 1);
        due("3: 3 3 3 2 still", s.after(253), 254);
        due("3: 3 3 3 3 no more", s.after(254), NONE);

        LazyClauseSolver low = new LazyClauseSolver();
        Setup.hold(low, -5, -5, -5, -5);
        due("3: b = -60", low.linear(-60), 0);
        due("3: 3 3 3 3 alone", low.after(-1), 255);

        LazyClauseSolver mixed = new LazyClauseSolver();
        Setup.hold(mixed, 1, -2, 3, -4);
        mixed.linear(-16);
        due("3: 0 - 2*2 + 0 - 4*3 = -16", mixed.after(-1), 35);
        due("3: 0 - 2*3 + 0 - 4*3 = -18", mixed.after(35), 51);
        due("3: 1 - 2*3 + 0 - 4*3 = -17", mixed.after(51), 115);
        due("3: 2 - 2*3 + 0 - 4*3 = -16", mixed.after(115), 179);
        due("3: 3 - 2*3 + 0 - 4*3 = -15 is too much", mixed.after(179), NONE);
    }

    private static void linearKeepsItsOwnFactors() {
        LazyClauseSolver s = new LazyClauseSolver();
        Setup.hold(s, 1, 0, 0, 0);
        s.linear(1);
        s.factor(0, 0);
        due("3: a later factor leaves it as it is", s.values(0), 3);
        s.factor(1, -1);
        due("3: the second", s.linear(-2), 1);
        due("3: first of both", s.values(0), 3);
        due("3: second of both", s.values(1), 12);
        due("3: others free", s.values(2), 15);
        due("3: number of both", Setup.solutions(s), 2 * 2 * 4 * 4);
    }

    private static void differ() {
        int[] badSets = {-1, 16, LOWEST, HIGHEST};
        LazyClauseSolver s = new LazyClauseSolver();
        for (int set : badSets) {
            due("4: no set " + set, s.differ(set), BAD_ARG);
        }
        due("4: none made", s.constraints(), 0);
        int[] waysOfSize = {1, 4, 12, 24, 24};
        int[] freeOfSize = {256, 64, 16, 4, 1};
        for (int set = 0; set <= 15; set++) {
            LazyClauseSolver one = new LazyClauseSolver();
            due("4: number", one.differ(set), 0);
            int size = Integer.bitCount(set);
            due("4: solutions of set " + set, Setup.solutions(one), waysOfSize[size] * freeOfSize[size]);
        }
        LazyClauseSolver all = new LazyClauseSolver();
        all.differ(15);
        due("4: 0 1 2 3", all.after(-1), 27);
        due("4: 0 1 3 2", all.after(27), 30);
        LazyClauseSolver ends = new LazyClauseSolver();
        ends.differ(9);
        due("4: variables 0 and 3", ends.after(-1), 1);
        due("4: 0 0 1 1 after 0 0 0 3", ends.after(3), 5);
        due("4: 1 0 0 0 after 0 3 3 3", ends.after(63), 64);
        due("4: 1 0 0 1 is none", ends.after(64), 66);
    }

    private static void either() {
        int[] bad = {-1, 4, LOWEST, HIGHEST};
        LazyClauseSolver s = new LazyClauseSolver();
        for (int x : bad) {
            due("5: i = " + x, s.either(x, 0, 0, 0), BAD_ARG);
            due("5: m = " + x, s.either(0, x, 0, 0), BAD_ARG);
            due("5: j = " + x, s.either(0, 0, x, 0), BAD_ARG);
            due("5: n = " + x, s.either(0, 0, 0, x), BAD_ARG);
        }
        due("5: none made", s.constraints(), 0);
        due("5: number", s.either(0, 3, 1, 0), 0);
        due("5: values of 0", s.values(0), 15);
        due("5: v1 = 2 needs v0 = 3", s.firstWith(1, 2), 64 * 3 + 16 * 2);
        due("5: v0 = 2 needs v1 = 0", s.firstWith(0, 2), 64 * 2);
        due("5: number of the next", s.either(2, 3, 2, 0), 1);
        due("5: the same variable twice", s.values(2), 9);
    }

    private static void eitherOnEveryAssignment() {
        for (int kind = 0; kind < 256; kind++) {
            int i = kind >> 6;
            int m = kind >> 4 & 3;
            int j = kind >> 2 & 3;
            int n = kind & 3;
            LazyClauseSolver s = new LazyClauseSolver();
            s.either(i, m, j, n);
            int expected = 0;
            for (int at = 0; at < 256; at++) {
                int[] v = {at >> 6, at >> 4 & 3, at >> 2 & 3, at & 3};
                boolean holds = v[i] >= m || v[j] <= n;
                if (holds) {
                    expected++;
                }
                due("5: either " + i + m + j + n + " at " + at, s.after(at - 1) == at, holds);
            }
            due("5: number of either " + i + m + j + n, expected, expected(i, m, j, n));
        }
    }

    /** How many assignments satisfy either, counted from the ones that break it. */
    private static int expected(int i, int m, int j, int n) {
        if (i == j) {
            int breaking = Math.max(0, m - n - 1);
            return 256 - breaking * 64;
        }
        return 256 - m * (3 - n) * 16;
    }

    private static void constraints() {
        LazyClauseSolver s = new LazyClauseSolver();
        for (int c = 0; c < 10; c++) {
            due("6: before", s.constraints(), c);
            int kind = c % 3;
            int made = kind == 0 ? s.linear(c) : kind == 1 ? s.differ(c) : s.either(0, 1, 2, 3);
            due("6: numbered in the order made", made, c);
        }
        due("6: ten", s.constraints(), 10);
        due("3: FULL", s.linear(0), FULL);
        due("4: FULL", s.differ(0), FULL);
        due("5: FULL", s.either(0, 0, 0, 0), FULL);
        due("6: still ten", s.constraints(), 10);
        s.force(3, 0);
        due("6: out of force counts too", s.constraints(), 10);
        due("3: out of force leaves it FULL", s.linear(0), FULL);
    }

    private static void force() {
        LazyClauseSolver s = new LazyClauseSolver();
        due("7: no constraint yet", s.force(0, 1), BAD_ARG);
        Setup.hold(s, 1, 0, 0, 0);
        s.linear(1);
        Setup.hold(s, 0, 1, 0, 0);
        s.linear(2);
        due("7: c = -1", s.force(-1, 0), BAD_ARG);
        due("7: c = 2", s.force(2, 0), BAD_ARG);
        due("7: c = 32", s.force(32, 0), BAD_ARG);
        due("7: c lowest", s.force(LOWEST, 0), BAD_ARG);
        due("7: c highest", s.force(HIGHEST, 0), BAD_ARG);
        due("7: values before", s.values(0), 3);
        due("7: made in force", s.force(0, 0), 1);
        due("7: out of force", s.values(0), 15);
        due("7: the other stays", s.values(1), 7);
        due("7: out twice", s.force(0, 0), 0);
        due("7: on = -1", s.force(0, -1), 0);
        due("7: in force again", s.values(0), 3);
        due("7: on = lowest", s.force(0, LOWEST), 1);
        due("7: in force twice", s.values(0), 3);
        due("7: on = 2, not only its last bit", s.force(1, 2), 1);
        due("7: still in force", s.values(1), 7);
    }

    private static void clear() {
        LazyClauseSolver s = new LazyClauseSolver();
        s.clear();
        due("8: a new object", s.constraints(), 0);
        Setup.hold(s, 1, 2, -3, 4);
        s.linear(-9);
        s.differ(15);
        s.either(0, 3, 1, 0);
        s.clear();
        due("8: no constraint", s.constraints(), 0);
        due("8: everything is a solution", Setup.solutions(s), 256);
        due("8: force", s.force(0, 0), BAD_ARG);
        due("8: follows", s.follows(0), false);
        due("8: smallest by the factors still held", s.smallest(), -9);
        due("8: numbers begin at 0", s.linear(-9), 0);
        due("8: linear by the factors still held", s.after(-1), 12);
        due("8: and no other", Setup.solutions(s), 1);
        int[] held = {1, 2, -3, 4};
        for (int i = 0; i < 4; i++) {
            due("8: factor held", s.factor(i, 0), held[i]);
        }
        Setup.fill(s);
        s.clear();
        due("8: no longer FULL", s.differ(0), 0);
    }

    private static void clearForgetsTheOldConstraints() {
        LazyClauseSolver s = new LazyClauseSolver();
        Setup.impossible(s);
        s.differ(15);
        s.force(1, 0);
        s.clear();
        s.differ(0);
        due("8: the new constraint 0", Setup.solutions(s), 256);
        s.differ(3);
        due("8: the new constraint 1 is in force", s.force(1, 1), 1);
        due("8: the new constraint 1", s.after(-1), 16);
        s.force(1, 0);
        due("8: the new constraint 1 out of force", s.after(-1), 0);
    }

    private static void solvable() {
        LazyClauseSolver s = new LazyClauseSolver();
        Setup.hold(s, -5, -5, -5, -5);
        s.linear(-60);
        due("9: the last assignment alone", s.solvable(), true);
        s.differ(3);
        due("9: none", s.solvable(), false);
        s.force(0, 0);
        due("9: first out of force", s.solvable(), true);
        s.force(0, 1);
        s.force(1, 0);
        due("9: second out of force", s.solvable(), true);
    }

    private static void value() {
        LazyClauseSolver s = new LazyClauseSolver();
        Setup.hold(s, -1, 2, 0, -3);
        s.linear(-7);
        // The least solution: v0 = 0 needs 2*v1 - 3*v3 <= -7, so v3 = 3 and v1 = 0.
        int[] first = {0, 0, 0, 3};
        for (int i = 0; i < 4; i++) {
            due("10: value " + i, s.value(i), first[i]);
        }
        s.either(2, 2, 3, 2);
        due("10: v2 now", s.value(2), 2);
        s.differ(3);
        due("10: v1 now", s.value(1), 1);
        due("10: v0 still", s.value(0), 0);
        int[] bad = {-1, 4, LOWEST, HIGHEST};
        for (int i : bad) {
            due("10: no variable " + i, s.value(i), BAD_ARG);
        }
        Setup.impossible(s);
        for (int i = 0; i < 4; i++) {
            due("10: no solution", s.value(i), NONE);
        }
    }

    private static void firstWith() {
        LazyClauseSolver s = new LazyClauseSolver();
        for (int x = 0; x < 4; x++) {
            due("11: v0", s.firstWith(0, x), 64 * x);
            due("11: v1", s.firstWith(1, x), 16 * x);
            due("11: v2", s.firstWith(2, x), 4 * x);
            due("11: v3", s.firstWith(3, x), x);
        }
        s.differ(15);
        due("11: 0 1 2 3", s.firstWith(3, 3), 27);
        due("11: 1 2 3 0", s.firstWith(3, 0), 64 + 32 + 12);
        due("11: 1 0 2 3", s.firstWith(1, 0), 64 + 8 + 3);
        due("11: 3 0 1 2", s.firstWith(0, 3), 192 + 4 + 2);
        s.either(0, 2, 0, 0);
        due("11: no such solution", s.firstWith(0, 1), NONE);
        int[] bad = {-1, 4, LOWEST, HIGHEST};
        for (int x : bad) {
            due("11: i = " + x, s.firstWith(x, 0), BAD_ARG);
            due("11: x = " + x, s.firstWith(0, x), BAD_ARG);
        }
        Setup.impossible(s);
        due("11: no solution at all", s.firstWith(3, 3), NONE);
    }

    private static void values() {
        LazyClauseSolver s = new LazyClauseSolver();
        Setup.hold(s, 1, 1, 1, -1);
        s.linear(-2);
        due("12: v0", s.values(0), 3);
        due("12: v2", s.values(2), 3);
        due("12: v3", s.values(3), 12);
        s.either(1, 3, 1, 0);
        due("12: v1 a single one", s.values(1), 1);
        s.either(0, 3, 3, 2);
        due("12: v3 = 2 alone", s.values(3), 4);
        int[] bad = {-1, 4, LOWEST, HIGHEST};
        for (int i : bad) {
            due("12: no variable " + i, s.values(i), BAD_ARG);
        }
        LazyClauseSolver gap = new LazyClauseSolver();
        gap.either(3, 3, 3, 0);
        due("12: a gap", gap.values(3), 9);
        Setup.impossible(gap);
        due("12: no solution", gap.values(3), 0);
        due("12: no variable and no solution", gap.values(4), BAD_ARG);
    }

    private static void after() {
        LazyClauseSolver s = new LazyClauseSolver();
        due("13: the first of all", s.after(-1), 0);
        due("13: not this one itself", s.after(0), 1);
        due("13: the last", s.after(254), 255);
        due("13: after the last", s.after(255), NONE);
        due("13: from = -2", s.after(-2), BAD_ARG);
        due("13: from = 256", s.after(256), BAD_ARG);
        due("13: from = -4", s.after(NONE), BAD_ARG);
        due("13: from lowest", s.after(LOWEST), BAD_ARG);
        due("13: from highest", s.after(HIGHEST), BAD_ARG);
        s.differ(15);
        due("13: from no solution", s.after(0), 27);
        due("13: from a solution", s.after(27), 30);
        due("13: just before one", s.after(26), 27);
        due("13: 3 2 1 0 is the last", s.after(227), 228);
        due("13: none after it", s.after(228), NONE);
        due("13: twenty-four in all", Setup.solutions(s), 24);
    }

    private static void smallest() {
        LazyClauseSolver s = new LazyClauseSolver();
        Setup.hold(s, -5, -5, -5, -5);
        due("14: the least of all", s.smallest(), -60);
        Setup.hold(s, 5, 5, 5, 5);
        due("14: with none needed", s.smallest(), 0);
        Setup.hold(s, -1, -1, -1, -1);
        s.linear(-12);
        Setup.hold(s, 5, 5, 5, 5);
        due("14: the greatest of all", s.smallest(), 60);
        Setup.hold(s, 1, 2, -3, 4);
        due("14: each by its own factor", s.smallest(), 12);
        s.clear();
        s.differ(15);
        due("14: 1*2 + 2*1 - 3*3 + 4*0", s.smallest(), -5);
        s.either(2, 0, 0, 0);
        due("14: as it is", s.smallest(), -5);
        s.either(3, 1, 3, 0);
        s.either(3, 1, 2, 2);
        due("14: v3 = 0 no more with v2 = 3: 1*2 + 2*0 - 3*3 + 4*1", s.smallest(), -3);
        due("14: not only the first solution", s.after(-1), 27);
        Setup.impossible(s);
        due("14: no solution", s.smallest(), NO_SUM);
    }

    private static void blame() {
        LazyClauseSolver s = new LazyClauseSolver();
        due("15: nothing to blame", s.blame(), 0);
        Setup.hold(s, 1, 0, 0, 0);
        s.linear(0);
        due("15: a solution", s.blame(), 0);
        Setup.hold(s, -1, 0, 0, 0);
        s.linear(-1);
        due("15: both", s.blame(), 3);
        s.linear(-2);
        due("15: the later of two reasons stays", s.blame(), 5);
        s.differ(15);
        due("15: one that has no part in it", s.blame(), 5);
        Setup.impossible(s);
        due("15: one that alone cannot be met", s.blame(), 16);
        s.force(4, 0);
        due("15: back to two", s.blame(), 5);
        s.force(2, 0);
        due("15: and the earlier one", s.blame(), 3);
        s.force(0, 0);
        due("15: a solution again", s.blame(), 0);
        LazyClauseSolver full = new LazyClauseSolver();
        for (int c = 0; c < 9; c++) {
            full.differ(0);
        }
        Setup.impossible(full);
        due("15: the tenth", full.blame(), 512);
    }

    private static void blameAmongOutOfForce() {
        LazyClauseSolver s = new LazyClauseSolver();
        Setup.impossible(s);
        s.force(0, 0);
        Setup.hold(s, 1, 1, 1, 1);
        s.linear(5);
        s.differ(15);
        due("15: the one out of force counts for nothing", s.blame(), 6);
        s.force(0, 1);
        due("15: in force it is the first to be taken out", s.blame(), 6);
        s.force(2, 0);
        due("15: alone to blame", s.blame(), 1);
    }

    private static void follows() {
        LazyClauseSolver s = new LazyClauseSolver();
        due("16: no constraint yet", s.follows(0), false);
        Setup.hold(s, 1, 0, 0, 0);
        s.linear(1);
        s.linear(2);
        due("16: v0 <= 1 from v0 <= 2", s.follows(0), false);
        due("16: v0 <= 2 from v0 <= 1", s.follows(1), true);
        due("16: c = -1", s.follows(-1), false);
        due("16: c = 2", s.follows(2), false);
        due("16: c = 32", s.follows(32), false);
        due("16: c lowest", s.follows(LOWEST), false);
        due("16: c highest", s.follows(HIGHEST), false);
        s.force(1, 0);
        due("16: one that is out of force", s.follows(1), true);
        s.force(0, 0);
        due("16: nothing in force", s.follows(1), false);
        s.force(1, 1);
        due("16: not from itself", s.follows(1), false);
        due("16: out of force and not following", s.follows(0), false);
        due("16: one that always holds", s.follows(s.differ(1)), true);
        int no = Setup.impossible(s);
        due("16: everything from the impossible", s.follows(0), true);
        due("16: but not the impossible itself", s.follows(no), false);
        s.force(no, 0);
        due("16: nor out of force", s.follows(no), false);
        Setup.hold(s, 0, 0, 0, 1);
        s.linear(1);
        Setup.hold(s, 0, 0, 0, -1);
        s.linear(-2);
        due("16: no solution without it", s.follows(no), true);
        due("16: needed for there being none", s.follows(4), false);
    }

    private static void theFirstAssignmentAlone() {
        LazyClauseSolver s = new LazyClauseSolver();
        Setup.hold(s, 1, 1, 1, 1);
        s.linear(0);
        due("9: 0 0 0 0 alone", s.solvable(), true);
        due("13: 0 0 0 0 alone", s.after(-1), 0);
        due("13: none after 0 0 0 0", s.after(0), NONE);
        due("14: 0 0 0 0 alone", s.smallest(), 0);
        due("15: 0 0 0 0 alone", s.blame(), 0);
        for (int i = 0; i < 4; i++) {
            due("10: 0 0 0 0 alone", s.value(i), 0);
            due("11: 0 0 0 0 alone", s.firstWith(i, 0), 0);
            due("12: 0 0 0 0 alone", s.values(i), 1);
        }
        s.clear();
        Setup.hold(s, -1, -1, -1, -1);
        s.linear(-1);
        due("16: broken by 0 0 0 0 alone", s.follows(0), false);
        s.clear();
        s.either(0, 3, 1, 0);
        due("5: 0 0 0 0 satisfies every either", s.after(-1), 0);
    }

    private static void theLastAssignmentAlone() {
        LazyClauseSolver s = new LazyClauseSolver();
        Setup.hold(s, -1, -1, -1, -1);
        s.linear(-12);
        due("9: 3 3 3 3 alone", s.solvable(), true);
        due("13: 3 3 3 3 alone", s.after(-1), 255);
        due("14: 3 3 3 3 alone", s.smallest(), -12);
        due("15: 3 3 3 3 alone", s.blame(), 0);
        for (int i = 0; i < 4; i++) {
            due("10: 3 3 3 3 alone", s.value(i), 3);
            due("11: 3 3 3 3 alone", s.firstWith(i, 3), 255);
            due("12: 3 3 3 3 alone", s.values(i), 8);
        }
        s.clear();
        Setup.hold(s, 1, 1, 1, 1);
        s.linear(11);
        due("16: broken by 3 3 3 3 alone", s.follows(0), false);
    }

    private static void objectsAreApart() {
        LazyClauseSolver one = new LazyClauseSolver();
        LazyClauseSolver other = new LazyClauseSolver();
        one.factor(0, 3);
        one.differ(15);
        due("1: the other has no constraint", other.constraints(), 0);
        due("1: the other holds 0", other.factor(0, 1), 0);
        other.differ(3);
        due("1: each its own solutions", one.after(-1), 27);
    }
}
