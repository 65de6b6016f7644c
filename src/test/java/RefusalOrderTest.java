/** Where a call could be refused for two reasons: which of the two it answers. */
public final class RefusalOrderTest {
    private static final int BAD_ARG = -1;
    private static final int FULL = -2;
    private static final int NONE = -4;
    private static final int NO_SUM = 1000;

    private static final Check check = new Check("RefusalOrderTest");

    public static void main(String[] args) {
        linear();
        differ();
        either();
        eitherOneBadAmongFour();
        value();
        firstWith();
        firstWithOneBadOfTwo();
        after();
        valuesWithNoSolution();
        factorWhenFull();
        forceWhenUnsolvable();
        check.end();
    }

    private static LazyClauseSolver fullAndUnsolvable() {
        return Setup.tenAllNeeded();
    }

    // Promise 3: "Tested in this order: b not -60 to 60 answers BAD_ARG; FULL."
    private static void linear() {
        LazyClauseSolver s = fullAndUnsolvable();
        check.due("3: just below", s.linear(-61), BAD_ARG);
        check.due("3: the least", s.linear(-60), FULL);
        check.due("3: the greatest", s.linear(60), FULL);
        check.due("3: just above", s.linear(61), BAD_ARG);
        for (int b : Setup.FAR) {
            check.due("3: b = " + b, s.linear(b), BAD_ARG);
        }
    }

    // Promise 4: "Tested in this order: set not 0 to 15 answers BAD_ARG; FULL."
    private static void differ() {
        LazyClauseSolver s = fullAndUnsolvable();
        check.due("4: just below", s.differ(-1), BAD_ARG);
        check.due("4: the least", s.differ(0), FULL);
        check.due("4: the greatest", s.differ(15), FULL);
        check.due("4: just above", s.differ(16), BAD_ARG);
        for (int set : Setup.FAR) {
            check.due("4: set = " + set, s.differ(set), BAD_ARG);
        }
    }

    // Promise 5: "Tested in this order: i or j not 0 to 3, or m or n not 0 to 3 answers BAD_ARG; FULL."
    private static void either() {
        LazyClauseSolver s = fullAndUnsolvable();
        check.due("5: just below", s.either(-1, -1, -1, -1), BAD_ARG);
        check.due("5: the least", s.either(0, 0, 0, 0), FULL);
        check.due("5: the greatest", s.either(3, 3, 3, 3), FULL);
        check.due("5: just above", s.either(4, 4, 4, 4), BAD_ARG);
    }

    private static void eitherOneBadAmongFour() {
        LazyClauseSolver s = fullAndUnsolvable();
        int[] bad = {-1, 4, Integer.MIN_VALUE, Integer.MAX_VALUE};
        for (int x : bad) {
            for (int good = 0; good <= 3; good += 3) {
                check.due("5: i = " + x, s.either(x, good, good, good), BAD_ARG);
                check.due("5: m = " + x, s.either(good, x, good, good), BAD_ARG);
                check.due("5: j = " + x, s.either(good, good, x, good), BAD_ARG);
                check.due("5: n = " + x, s.either(good, good, good, x), BAD_ARG);
            }
        }
    }

    // Promise 17: "value ...: BAD_ARG is tested before NONE."
    private static void value() {
        LazyClauseSolver s = fullAndUnsolvable();
        check.due("17: value, just below", s.value(-1), BAD_ARG);
        check.due("17: value, the least", s.value(0), NONE);
        check.due("17: value, the greatest", s.value(3), NONE);
        check.due("17: value, just above", s.value(4), BAD_ARG);
        for (int i : Setup.FAR) {
            check.due("17: value, i = " + i, s.value(i), BAD_ARG);
        }
    }

    // Promise 17: "firstWith ...: BAD_ARG is tested before NONE."
    private static void firstWith() {
        LazyClauseSolver s = fullAndUnsolvable();
        for (int good = 0; good <= 3; good += 3) {
            check.due("17: firstWith, i just below", s.firstWith(-1, good), BAD_ARG);
            check.due("17: firstWith, i just above", s.firstWith(4, good), BAD_ARG);
            check.due("17: firstWith, x just below", s.firstWith(good, -1), BAD_ARG);
            check.due("17: firstWith, x just above", s.firstWith(good, 4), BAD_ARG);
            check.due("17: firstWith, both inside", s.firstWith(good, 3 - good), NONE);
            check.due("17: firstWith, both alike", s.firstWith(good, good), NONE);
        }
        for (int far : Setup.FAR) {
            check.due("17: firstWith, i = " + far, s.firstWith(far, 0), BAD_ARG);
            check.due("17: firstWith, x = " + far, s.firstWith(0, far), BAD_ARG);
        }
    }

    // Promise 17, with solutions there: no such one against an argument out of its range.
    private static void firstWithOneBadOfTwo() {
        LazyClauseSolver s = new LazyClauseSolver();
        Setup.hold(s, 1, 1, 1, 1);
        s.linear(0);
        check.due("17: firstWith, there", s.firstWith(3, 0), 0);
        check.due("17: firstWith, no such one", s.firstWith(3, 3), NONE);
        check.due("17: firstWith, x out of its range", s.firstWith(3, 4), BAD_ARG);
        check.due("17: firstWith, i out of its range", s.firstWith(4, 3), BAD_ARG);
    }

    // Promise 17: "after: BAD_ARG is tested before NONE."
    private static void after() {
        LazyClauseSolver s = fullAndUnsolvable();
        check.due("17: after, just below", s.after(-2), BAD_ARG);
        check.due("17: after, the least", s.after(-1), NONE);
        check.due("17: after, the greatest", s.after(255), NONE);
        check.due("17: after, just above", s.after(256), BAD_ARG);
        for (int from : Setup.FAR) {
            check.due("17: after, from = " + from, s.after(from), BAD_ARG);
        }
        LazyClauseSolver solvable = new LazyClauseSolver();
        check.due("17: after the last of all", solvable.after(255), NONE);
        check.due("17: after that", solvable.after(256), BAD_ARG);
    }

    // Promise 12: "BAD_ARG if i is not 0 to 3", whether there is a solution or not.
    private static void valuesWithNoSolution() {
        LazyClauseSolver s = fullAndUnsolvable();
        check.due("12: just below", s.values(-1), BAD_ARG);
        check.due("12: the least", s.values(0), 0);
        check.due("12: the greatest", s.values(3), 0);
        check.due("12: just above", s.values(4), BAD_ARG);
    }

    // Promise 2 names BAD_ARG alone: ten constraints are no reason to refuse a factor.
    private static void factorWhenFull() {
        LazyClauseSolver s = Setup.full();
        check.due("2: the least when full", s.factor(0, -5), 0);
        check.due("2: the greatest when full", s.factor(0, 5), -5);
        check.due("2: just above when full", s.factor(0, 6), BAD_ARG);
        check.due("2: just below when full", s.factor(0, -6), BAD_ARG);
        s.factor(0, -5);
        check.due("14: smallest when full", s.smallest(), -15);
    }

    // Promise 7 names BAD_ARG alone: no solution is no reason to refuse it.
    private static void forceWhenUnsolvable() {
        LazyClauseSolver s = fullAndUnsolvable();
        check.due("7: just below", s.force(-1, 0), BAD_ARG);
        check.due("7: just above", s.force(10, 0), BAD_ARG);
        check.due("14: unsolvable still", s.smallest(), NO_SUM);
        check.due("7: the greatest", s.force(9, 0), 1);
        check.due("7: the least", s.force(0, 0), 1);
        check.due("9: solvable now", s.solvable(), true);
    }
}
