import java.util.function.IntUnaryOperator;

/**
 * Each range that the document names: the values just inside and just outside on both sides,
 * all those near them and numbers far away, each on a new object.
 */
public final class RangeTest {
    private static final int BAD_ARG = -1;
    private static final int NONE = -4;
    private static final int AROUND = 300;

    private static final Check check = new Check("RangeTest");

    public static void main(String[] args) {
        factorVariable();
        factorValue();
        linearBound();
        differSet();
        eitherVariables();
        eitherValues();
        forceConstraint();
        forceOn();
        valueVariable();
        firstWithVariable();
        firstWithValue();
        valuesVariable();
        afterFrom();
        followsConstraint();
        variablesAndValues();
        orderOfSolutions();
        factorsAtTheirEdges();
        linearAtItsEdges();
        linearAtEqual();
        differAtItsEdges();
        eitherAtItsEdges();
        eitherAtEqual();
        smallestAtItsEdges();
        check.end();
    }

    private static LazyClauseSolver made() {
        return new LazyClauseSolver();
    }

    /** BAD_ARG for every x not least to greatest, and the answer due for every other one. */
    private static void range(
            String what, int least, int greatest, IntUnaryOperator call, IntUnaryOperator due) {
        check.due(what + ", just below: " + (least - 1), call.applyAsInt(least - 1), BAD_ARG);
        check.due(what + ", the least: " + least, call.applyAsInt(least), due.applyAsInt(least));
        check.due(what + ", the greatest: " + greatest, call.applyAsInt(greatest), due.applyAsInt(greatest));
        check.due(what + ", just above: " + (greatest + 1), call.applyAsInt(greatest + 1), BAD_ARG);
        for (int x = least - AROUND; x <= greatest + AROUND; x++) {
            boolean inside = x >= least && x <= greatest;
            check.due(what + " = " + x, call.applyAsInt(x), inside ? due.applyAsInt(x) : BAD_ARG);
        }
        for (int x : Setup.FAR) {
            check.due(what + " = " + x, call.applyAsInt(x), BAD_ARG);
        }
    }

    // Promise 2: "BAD_ARG if i is not 0 to 3 ..."
    private static void factorVariable() {
        range("2: factor, i", 0, 3, x -> made().factor(x, 1), x -> 0);
        range("2: factor, i with a = -5", 0, 3, x -> made().factor(x, -5), x -> 0);
        range("2: factor, i with a = 5", 0, 3, x -> made().factor(x, 5), x -> 0);
    }

    // Promise 2: "... or a not -5 to 5."
    private static void factorValue() {
        for (int i = 0; i < 4; i++) {
            int variable = i;
            range("2: factor, a of " + i, -5, 5, x -> made().factor(variable, x), x -> 0);
        }
        check.due("2: factor, both just below", made().factor(-1, -6), BAD_ARG);
        check.due("2: factor, both just above", made().factor(4, 6), BAD_ARG);
    }

    // Promise 3: "b not -60 to 60 answers BAD_ARG"
    private static void linearBound() {
        range("3: linear, b", -60, 60, x -> made().linear(x), x -> 0);
    }

    // Promise 4: "set not 0 to 15 answers BAD_ARG"
    private static void differSet() {
        range("4: differ, set", 0, 15, x -> made().differ(x), x -> 0);
    }

    // Promise 5: "i or j not 0 to 3 ..."
    private static void eitherVariables() {
        range("5: either, i", 0, 3, x -> made().either(x, 1, 1, 1), x -> 0);
        range("5: either, j", 0, 3, x -> made().either(1, 1, x, 1), x -> 0);
        range("5: either, i and j", 0, 3, x -> made().either(x, 1, x, 1), x -> 0);
    }

    // Promise 5: "... or m or n not 0 to 3 answers BAD_ARG"
    private static void eitherValues() {
        range("5: either, m", 0, 3, x -> made().either(1, x, 1, 1), x -> 0);
        range("5: either, n", 0, 3, x -> made().either(1, 1, 1, x), x -> 0);
        range("5: either, m and n", 0, 3, x -> made().either(1, x, 1, x), x -> 0);
        range("5: either, all four", 0, 3, x -> made().either(x, x, x, x), x -> 0);
    }

    private static LazyClauseSolver withConstraints(int number) {
        LazyClauseSolver s = made();
        for (int c = 0; c < number; c++) {
            s.differ(0);
        }
        return s;
    }

    // Promise 7: "BAD_ARG if there is no constraint c."
    private static void forceConstraint() {
        for (int number = 1; number <= 10; number++) {
            int n = number;
            range("7: force, c of " + n + " to put out", 0, n - 1, x -> withConstraints(n).force(x, 0), x -> 1);
            range("7: force, c of " + n + " to put in", 0, n - 1, x -> withConstraints(n).force(x, 1), x -> 1);
        }
    }

    // Promise 7: "Puts constraint c in force (on not 0) or out of force (on 0)."
    private static void forceOn() {
        for (int on = -AROUND; on <= AROUND; on++) {
            forceOnIs(on);
        }
        for (int on : Setup.FAR) {
            forceOnIs(on);
        }
    }

    private static void forceOnIs(int on) {
        LazyClauseSolver in = Setup.unsolvable();
        check.due("7: in force, on = " + on, in.force(0, on), 1);
        check.due("7: then solvable, on = " + on, in.solvable(), on == 0);
        LazyClauseSolver out = Setup.unsolvable();
        out.force(0, 0);
        check.due("7: out of force, on = " + on, out.force(0, on), 0);
        check.due("7: solvable after that, on = " + on, out.solvable(), on == 0);
    }

    // Promise 10: "BAD_ARG if i is not 0 to 3"
    private static void valueVariable() {
        range("10: value, i", 0, 3, x -> made().value(x), x -> 0);
        range("10: value, i, of 0 1 2 3", 0, 3, x -> allDifferent().value(x), x -> x);
    }

    private static LazyClauseSolver allDifferent() {
        LazyClauseSolver s = made();
        s.differ(15);
        return s;
    }

    // Promise 11: "BAD_ARG if i ... is not 0 to 3"
    private static void firstWithVariable() {
        range("11: firstWith, i", 0, 3, i -> made().firstWith(i, 3), i -> 3 << 2 * (3 - i));
    }

    // Promise 11: "BAD_ARG if ... x is not 0 to 3"
    private static void firstWithValue() {
        range("11: firstWith, x for 0", 0, 3, x -> made().firstWith(0, x), x -> 64 * x);
        range("11: firstWith, x for 3", 0, 3, x -> made().firstWith(3, x), x -> x);
        check.due("11: firstWith, both just below", made().firstWith(-1, -1), BAD_ARG);
        check.due("11: firstWith, both just above", made().firstWith(4, 4), BAD_ARG);
    }

    // Promise 12: "BAD_ARG if i is not 0 to 3."
    private static void valuesVariable() {
        range("12: values, i", 0, 3, x -> made().values(x), x -> 15);
    }

    // Promise 13: "BAD_ARG if from is not -1 to 255"; "from = -1 asks for the first solution of all"
    private static void afterFrom() {
        range("13: after, from", -1, 255, x -> made().after(x), x -> x == 255 ? NONE : x + 1);
        range("13: after, from, 3 3 3 3 alone", -1, 255, x -> last().after(x), x -> x == 255 ? NONE : 255);
        range("13: after, from, 0 0 0 0 alone", -1, 255, x -> first().after(x), x -> x == -1 ? 0 : NONE);
    }

    private static LazyClauseSolver first() {
        LazyClauseSolver s = made();
        Setup.hold(s, 1, 1, 1, 1);
        s.linear(0);
        return s;
    }

    private static LazyClauseSolver last() {
        LazyClauseSolver s = made();
        Setup.hold(s, -1, -1, -1, -1);
        s.linear(-12);
        return s;
    }

    // Promise 16: "False if there is no constraint c."
    private static void followsConstraint() {
        for (int number = 1; number <= 10; number++) {
            for (int c = -AROUND; c <= AROUND; c++) {
                boolean there = c >= 0 && c < number;
                check.due("16: follows, " + c + " of " + number, withConstraints(number).follows(c), there);
            }
            for (int c : Setup.FAR) {
                check.due("16: follows, " + c + " of " + number, withConstraints(number).follows(c), false);
            }
        }
    }

    // Terms: "The VARIABLES are 0 to 3; each has a value 0 to 3."
    private static void variablesAndValues() {
        for (int at = 0; at < 256; at++) {
            LazyClauseSolver s = only(at);
            check.due("Terms: just this one, " + at, s.after(-1), at);
            check.due("Terms: and no other, " + at, s.after(at), NONE);
            for (int i = 0; i < 4; i++) {
                int x = digit(at, i);
                check.due("10: value " + i + " of " + at, s.value(i), x);
                check.due("11: firstWith " + i + " of " + at, s.firstWith(i, x), at);
                check.due("11: firstWith " + i + ", not of " + at, s.firstWith(i, 3 - x), NONE);
                check.due("12: values " + i + " of " + at, s.values(i), 1 << x);
            }
        }
    }

    private static int digit(int at, int i) {
        int[] v = {at / 64, at / 16 % 4, at / 4 % 4, at % 4};
        return v[i];
    }

    /** v i <= x and v i >= x for each variable: eight constraints. */
    private static LazyClauseSolver only(int at) {
        LazyClauseSolver s = made();
        for (int i = 0; i < 4; i++) {
            int x = digit(at, i);
            s.factor(i, 1);
            s.linear(x);
            s.factor(i, -1);
            s.linear(-x);
            s.factor(i, 0);
        }
        return s;
    }

    // Terms: "the one with the smaller value at the first variable where they differ comes first"
    private static void orderOfSolutions() {
        LazyClauseSolver s = made();
        Setup.hold(s, -1, -1, -1, -1);
        s.linear(-3);
        Setup.hold(s, 1, 1, 1, 1);
        s.linear(3);
        s.either(0, 3, 0, 0);
        s.either(1, 3, 1, 0);
        s.either(2, 3, 2, 0);
        int[] order = {3, 12, 48, 192, NONE};
        int from = -1;
        for (int next : order) {
            check.due("Terms: one 3 among 0s, after " + from, s.after(from), next);
            from = next;
        }
    }

    // Promise 2: factors -5 and 5 are held as they are given, for each variable.
    private static void factorsAtTheirEdges() {
        for (int i = 0; i < 4; i++) {
            for (int a = -5; a <= 5; a++) {
                LazyClauseSolver s = made();
                s.factor(i, a);
                check.due("14: smallest with factor " + a, s.smallest(), Math.min(0, 3 * a));
                check.due("2: held before", s.factor(i, 0), a);
                check.due("2: 0 held before", s.factor(i, a), 0);
                s.linear(-1);
                check.due("3: values with factor " + a, s.values(i), valuesUpTo(a, -1));
                check.due("2: still held after linear", s.factor(i, 1), a);
            }
        }
    }

    private static int valuesUpTo(int a, int b) {
        int set = 0;
        for (int x = 0; x < 4; x++) {
            set += a * x <= b ? 1 << x : 0;
        }
        return set;
    }

    // Promise 3: the bounds -60 and 60 are those that the sums just reach.
    private static void linearAtItsEdges() {
        for (int sign = -1; sign <= 1; sign += 2) {
            LazyClauseSolver least = made();
            Setup.hold(least, 5 * sign, 5 * sign, 5 * sign, 5 * sign);
            check.due("3: least bound", least.linear(-60), 0);
            check.due("3: least bound, first", least.after(-1), sign < 0 ? 255 : NONE);
            LazyClauseSolver greatest = made();
            Setup.hold(greatest, 5 * sign, 5 * sign, 5 * sign, 5 * sign);
            check.due("3: greatest bound", greatest.linear(60), 0);
            check.due("3: greatest bound, all", Setup.solutions(greatest), 256);
        }
    }

    // Terms: "<= b": a sum of b satisfies it, and one of b + 1 does not.
    private static void linearAtEqual() {
        for (int b = -60; b <= 60; b++) {
            LazyClauseSolver s = upTo(b);
            int expected = 0;
            for (int at = 0; at < 256; at++) {
                int sum = 5 * digit(at, 0) - 5 * digit(at, 1) + 3 * digit(at, 2) - 2 * digit(at, 3);
                boolean holds = sum <= b;
                expected += holds ? 1 : 0;
                check.due("3: sum " + sum + " <= " + b, s.after(at - 1) == at, holds);
            }
            check.due("3: number for b = " + b, Setup.solutions(upTo(b)), expected);
        }
    }

    private static LazyClauseSolver upTo(int b) {
        LazyClauseSolver s = made();
        Setup.hold(s, 5, -5, 3, -2);
        s.linear(b);
        return s;
    }

    // Promise 4: the empty set and a single variable bind nothing; 15 is all four.
    private static void differAtItsEdges() {
        int[] nothingToDiffer = {0, 1, 2, 4, 8};
        for (int set : nothingToDiffer) {
            LazyClauseSolver s = made();
            s.differ(set);
            check.due("4: set " + set + " binds nothing", Setup.solutions(s), 256);
        }
        LazyClauseSolver all = allDifferent();
        check.due("4: the first of all four", all.after(-1), 27);
        check.due("4: the last of all four", all.after(227), 228);
        check.due("4: no later one", all.after(228), NONE);
        int[] pairs = {3, 5, 9, 6, 10, 12};
        int[] firstOf = {16, 4, 1, 4, 1, 1};
        for (int p = 0; p < pairs.length; p++) {
            LazyClauseSolver s = made();
            s.differ(pairs[p]);
            check.due("4: the first of set " + pairs[p], s.after(-1), firstOf[p]);
            check.due("4: the number of set " + pairs[p], Setup.solutions(s), 192);
        }
    }

    // Promise 5: m = 0 or n = 3 binds nothing, m = 3 and n = 0 binds most; i and j may be the same.
    private static void eitherAtItsEdges() {
        for (int x = 0; x < 4; x++) {
            LazyClauseSolver m0 = made();
            m0.either(0, 0, 3, x);
            check.due("5: m = 0 binds nothing, n = " + x, Setup.solutions(m0), 256);
            LazyClauseSolver n3 = made();
            n3.either(0, x, 3, 3);
            check.due("5: n = 3 binds nothing, m = " + x, Setup.solutions(n3), 256);
            LazyClauseSolver same = made();
            same.either(x, 3, x, 0);
            check.due("5: i = j = " + x, same.values(x), 9);
            check.due("5: i = j = " + x + ", others free", same.values(3 - x), 15);
        }
        LazyClauseSolver most = made();
        most.either(0, 3, 3, 0);
        check.due("5: m = 3 and n = 0", Setup.solutions(most), 256 - 3 * 3 * 16);
    }

    // Terms: "v i >= m, or v j <= n (or both)": equal is enough on either side.
    private static void eitherAtEqual() {
        LazyClauseSolver s = made();
        s.either(1, 2, 2, 1);
        check.due("5: v1 = 2 is enough", s.after(64 + 32 + 8 - 1), 64 + 32 + 8);
        check.due("5: v2 = 1 is enough", s.after(64 + 16 + 4 - 1), 64 + 16 + 4);
        check.due("5: both", s.after(64 + 32 + 4 - 1), 64 + 32 + 4);
        check.due("5: v1 = 1 and v2 = 2 is neither", s.after(64 + 16 + 8 - 1), 64 + 32);
    }

    // Promise 14: the sums reach from -60 to 60, and no further.
    private static void smallestAtItsEdges() {
        LazyClauseSolver s = last();
        Setup.hold(s, 5, 5, 5, 5);
        check.due("14: the greatest sum, alone", s.smallest(), 60);
        Setup.hold(s, -5, -5, -5, -5);
        check.due("14: the least sum, alone", s.smallest(), -60);
        LazyClauseSolver free = made();
        Setup.hold(free, -5, -5, -5, -5);
        check.due("14: the least sum of all", free.smallest(), -60);
        Setup.hold(free, 5, 5, 5, 5);
        check.due("14: the least of sums from 0 upwards", free.smallest(), 0);
        Setup.hold(free, -1, 0, 0, 0);
        check.due("14: -3, no code", free.smallest(), -3);
        Setup.hold(free, -1, -1, 0, 0);
        check.due("14: -6", free.smallest(), -6);
    }
}
