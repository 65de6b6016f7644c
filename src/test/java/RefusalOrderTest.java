import java.util.function.IntUnaryOperator;

/** Where a call could be refused for two reasons: which of the two it answers. */
public final class RefusalOrderTest {
    private static final int BAD_ARG = -1;
    private static final int FULL = -2;
    private static final int NONE = -4;
    private static final int NO_SUM = 1000;

    private static final Check check = new Check("RefusalOrderTest");

    public static void main(String[] args) {
        linear();
        differ();
        either();
        eitherOneBadAmongFour();
        value();
        firstWith();
        firstWithOneBadOfTwo();
        after();
        valuesWithNoSolution();
        factorWhenFull();
        forceWhenUnsolvable();
        check.end();
    }

    private static LazyClauseSolver fullAndUnsolvable() {
        return Setup.tenAllNeeded();
    }

    /** One call after another on the same object: outside the range BAD_ARG, inside it the other code. */
    private static void badArgFirst(String what, int least, int greatest, IntUnaryOperator call, int inside) {
        check.due(what + ", just below", call.applyAsInt(least - 1), BAD_ARG);
        check.due(what + ", the least", call.applyAsInt(least), inside);
        check.due(what + ", the greatest", call.applyAsInt(greatest), inside);
        check.due(what + ", just above", call.applyAsInt(greatest + 1), BAD_ARG);
        for (int far : Setup.FAR) {
            check.due(what + " = " + far, call.applyAsInt(far), BAD_ARG);
        }
    }

    // Promise 3: "Tested in this order: b not -60 to 60 answers BAD_ARG; FULL."
    private static void linear() {
        LazyClauseSolver s = fullAndUnsolvable();
        badArgFirst("3: linear, b", -60, 60, s::linear, FULL);
    }

    // Promise 4: "Tested in this order: set not 0 to 15 answers BAD_ARG; FULL."
    private static void differ() {
        LazyClauseSolver s = fullAndUnsolvable();
        badArgFirst("4: differ, set", 0, 15, s::differ, FULL);
    }

    // Promise 5: "Tested in this order: i or j not 0 to 3, or m or n not 0 to 3 answers BAD_ARG; FULL."
    private static void either() {
        LazyClauseSolver s = fullAndUnsolvable();
        badArgFirst("5: either, all four", 0, 3, x -> s.either(x, x, x, x), FULL);
    }

    private static void eitherOneBadAmongFour() {
        LazyClauseSolver s = fullAndUnsolvable();
        int[] bad = {-1, 4, Integer.MIN_VALUE, Integer.MAX_VALUE};
        for (int x : bad) {
            for (int good = 0; good <= 3; good += 3) {
                check.due("5: i = " + x, s.either(x, good, good, good), BAD_ARG);
                check.due("5: m = " + x, s.either(good, x, good, good), BAD_ARG);
                check.due("5: j = " + x, s.either(good, good, x, good), BAD_ARG);
                check.due("5: n = " + x, s.either(good, good, good, x), BAD_ARG);
            }
        }
    }

    // Promise 17: "value ...: BAD_ARG is tested before NONE."
    private static void value() {
        LazyClauseSolver s = fullAndUnsolvable();
        badArgFirst("17: value, i", 0, 3, s::value, NONE);
    }

    // Promise 17: "firstWith ...: BAD_ARG is tested before NONE."
    private static void firstWith() {
        LazyClauseSolver s = fullAndUnsolvable();
        for (int good = 0; good <= 3; good += 3) {
            int other = good;
            badArgFirst("17: firstWith, i", 0, 3, i -> s.firstWith(i, other), NONE);
            badArgFirst("17: firstWith, x", 0, 3, x -> s.firstWith(other, x), NONE);
        }
    }

    // Promise 17, with solutions there: no such one against an argument out of its range.
    private static void firstWithOneBadOfTwo() {
        LazyClauseSolver s = new LazyClauseSolver();
        Setup.hold(s, 1, 1, 1, 1);
        s.linear(0);
        check.due("17: firstWith, there", s.firstWith(3, 0), 0);
        check.due("17: firstWith, no such one", s.firstWith(3, 3), NONE);
        check.due("17: firstWith, x out of its range", s.firstWith(3, 4), BAD_ARG);
        check.due("17: firstWith, i out of its range", s.firstWith(4, 3), BAD_ARG);
    }

    // Promise 17: "after: BAD_ARG is tested before NONE."
    private static void after() {
        LazyClauseSolver s = fullAndUnsolvable();
        badArgFirst("17: after, from", -1, 255, s::after, NONE);
        LazyClauseSolver solvable = new LazyClauseSolver();
        check.due("17: after the last of all", solvable.after(255), NONE);
        check.due("17: after that", solvable.after(256), BAD_ARG);
    }

    // Promise 12: "BAD_ARG if i is not 0 to 3", whether there is a solution or not.
    private static void valuesWithNoSolution() {
        LazyClauseSolver s = fullAndUnsolvable();
        badArgFirst("12: values, i", 0, 3, s::values, 0);
    }

    // Promise 2 names BAD_ARG alone: ten constraints are no reason to refuse a factor.
    private static void factorWhenFull() {
        LazyClauseSolver s = Setup.full();
        check.due("2: the least when full", s.factor(0, -5), 0);
        check.due("2: the greatest when full", s.factor(0, 5), -5);
        check.due("2: just above when full", s.factor(0, 6), BAD_ARG);
        check.due("2: just below when full", s.factor(0, -6), BAD_ARG);
        s.factor(0, -5);
        check.due("14: smallest when full", s.smallest(), -15);
    }

    // Promise 7 names BAD_ARG alone: no solution is no reason to refuse it.
    private static void forceWhenUnsolvable() {
        LazyClauseSolver s = fullAndUnsolvable();
        check.due("7: just below", s.force(-1, 0), BAD_ARG);
        check.due("7: just above", s.force(10, 0), BAD_ARG);
        check.due("14: unsolvable still", s.smallest(), NO_SUM);
        check.due("7: the greatest", s.force(9, 0), 1);
        check.due("7: the least", s.force(0, 0), 1);
        check.due("9: solvable now", s.solvable(), true);
    }
}
