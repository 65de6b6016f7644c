/** What each question answers where there is no solution, or no such one, and next to that. */
public final class NoSolutionTest {
    private static final int NONE = -4;
    private static final int NO_SUM = 1000;

    private static final Check check = new Check("NoSolutionTest");

    public static void main(String[] args) {
        solvable();
        value();
        firstWith();
        firstWithOneMissing();
        values();
        after();
        afterTheLastOne();
        smallest();
        blame();
        blameIsZeroWithASolution();
        blameTakesInTurn();
        blameLooksAtThoseInForce();
        follows();
        followsOutOfForce();
        thereAndBack();
        check.end();
    }

    /** Every way of there being none: one alone, two of each kind together, all ten. */
    private static LazyClauseSolver[] unsolvables() {
        LazyClauseSolver two = new LazyClauseSolver();
        Setup.hold(two, -5, -5, -5, -5);
        two.linear(-60);
        two.differ(3);
        LazyClauseSolver crowded = new LazyClauseSolver();
        crowded.differ(15);
        for (int i = 0; i < 4; i++) {
            crowded.either(i, 3, i, 1);
        }
        Setup.hold(crowded, 1, 1, 1, 1);
        crowded.linear(5);
        return new LazyClauseSolver[] {Setup.unsolvable(), two, crowded, Setup.tenAllNeeded()};
    }

    // Promise 9: "Whether there is a solution."
    private static void solvable() {
        for (LazyClauseSolver s : unsolvables()) {
            check.due("9: none", s.solvable(), false);
        }
    }

    // Promise 10: "NONE if there is no solution."
    private static void value() {
        for (LazyClauseSolver s : unsolvables()) {
            for (int i = 0; i < 4; i++) {
                check.due("10: value " + i, s.value(i), NONE);
            }
        }
    }

    // Promise 11: "NONE if there is no such solution."
    private static void firstWith() {
        for (LazyClauseSolver s : unsolvables()) {
            for (int i = 0; i < 4; i++) {
                for (int x = 0; x < 4; x++) {
                    check.due("11: firstWith " + i + " " + x, s.firstWith(i, x), NONE);
                }
            }
        }
    }

    // Promise 11: no such solution, though there are others.
    private static void firstWithOneMissing() {
        for (int i = 0; i < 4; i++) {
            for (int x = 0; x < 4; x++) {
                LazyClauseSolver s = without(i, x);
                for (int other = 0; other < 4; other++) {
                    int due = other == x ? NONE : other << 2 * (3 - i);
                    check.due("11: not " + x + ", asked for " + other, s.firstWith(i, other), due);
                }
                check.due("12: not " + x, s.values(i), 15 - (1 << x));
            }
        }
    }

    /** All assignments but those with v i = x. */
    private static LazyClauseSolver without(int i, int x) {
        LazyClauseSolver s = new LazyClauseSolver();
        if (x == 0) {
            s.factor(i, -1);
            s.linear(-1);
            s.factor(i, 0);
        } else if (x == 3) {
            s.factor(i, 1);
            s.linear(2);
            s.factor(i, 0);
        } else {
            s.either(i, x + 1, i, x - 1);
        }
        return s;
    }

    // Promise 12: the set of values in solutions is empty where there are none.
    private static void values() {
        for (LazyClauseSolver s : unsolvables()) {
            for (int i = 0; i < 4; i++) {
                check.due("12: values " + i, s.values(i), 0);
            }
        }
    }

    // Promise 13: "NONE if there is none"; from = -1 too.
    private static void after() {
        int[] froms = {-1, 0, 1, 63, 64, 127, 128, 254, 255};
        for (LazyClauseSolver s : unsolvables()) {
            for (int from : froms) {
                check.due("13: after " + from, s.after(from), NONE);
            }
        }
    }

    // Promise 13: "(not this one itself)": nothing comes after the last solution.
    private static void afterTheLastOne() {
        LazyClauseSolver s = new LazyClauseSolver();
        Setup.hold(s, 5, 1, 1, 1);
        s.linear(5);
        check.due("13: the last, 1 0 0 0, from just before", s.after(63), 64);
        check.due("13: from the last", s.after(64), NONE);
        check.due("13: from just after it", s.after(65), NONE);
        check.due("13: from the end", s.after(255), NONE);
        check.due("13: from the start", s.after(-1), 0);
    }

    // Promise 14: "NO_SUM if there is no solution."
    private static void smallest() {
        for (LazyClauseSolver s : unsolvables()) {
            check.due("14: smallest", s.smallest(), NO_SUM);
            Setup.hold(s, 5, 5, 5, 5);
            check.due("14: with great factors", s.smallest(), NO_SUM);
            Setup.hold(s, -5, -5, -5, -5);
            check.due("14: with small factors", s.smallest(), NO_SUM);
        }
    }

    // Promise 15: the final S, as the sum of 2 to the power c.
    private static void blame() {
        // Of "crowded" the set of all four and the sum, which is 6 for all different.
        int[] blamed = {1, 3, 1 + 32, 1023};
        LazyClauseSolver[] all = unsolvables();
        for (int k = 0; k < all.length; k++) {
            check.due("15: blame " + k, all[k].blame(), blamed[k]);
            check.due("15: asked twice " + k, all[k].blame(), blamed[k]);
        }
    }

    // Promise 15: "0 if there is a solution."
    private static void blameIsZeroWithASolution() {
        LazyClauseSolver s = new LazyClauseSolver();
        check.due("15: no constraint", s.blame(), 0);
        Setup.hold(s, -5, -5, -5, -5);
        s.linear(-60);
        check.due("15: one solution, the last", s.blame(), 0);
        s.linear(-59);
        check.due("15: one that follows", s.blame(), 0);
        LazyClauseSolver first = new LazyClauseSolver();
        Setup.hold(first, 5, 5, 5, 5);
        first.linear(0);
        check.due("15: one solution, the first", first.blame(), 0);
    }

    // Promise 15: "take c out of S if no assignment satisfies all constraints of S without c":
    // the earlier of two reasons goes, and what was taken out stays out.
    private static void blameTakesInTurn() {
        LazyClauseSolver s = new LazyClauseSolver();
        Setup.hold(s, 1, 0, 0, 0);
        s.linear(1);
        s.linear(0);
        Setup.hold(s, -1, 0, 0, 0);
        s.linear(-3);
        s.linear(-2);
        check.due("15: v0 <= 1, v0 <= 0, v0 >= 3, v0 >= 2", s.blame(), 2 + 8);
        LazyClauseSolver overlap = new LazyClauseSolver();
        Setup.hold(overlap, 1, 0, 0, 0);
        overlap.linear(2);
        Setup.hold(overlap, -1, 0, 0, 0);
        overlap.linear(-2);
        overlap.linear(-3);
        Setup.hold(overlap, 1, 0, 0, 0);
        overlap.linear(1);
        check.due("15: v0 <= 2, v0 >= 2, v0 >= 3, v0 <= 1", overlap.blame(), 4 + 8);
        overlap.force(2, 0);
        check.due("15: without v0 >= 3", overlap.blame(), 2 + 8);
        overlap.force(2, 1);
        overlap.force(3, 0);
        check.due("15: without v0 <= 1", overlap.blame(), 1 + 4);
    }

    // Promise 15: "begin with the set S of all constraints in force"
    private static void blameLooksAtThoseInForce() {
        LazyClauseSolver s = Setup.unsolvable();
        s.linear(-1);
        s.force(1, 0);
        check.due("15: the later one is out of force", s.blame(), 1);
        s.force(0, 0);
        check.due("15: both are out of force", s.blame(), 0);
        s.force(1, 1);
        check.due("15: the earlier one is out of force", s.blame(), 2);
        s.force(0, 1);
        check.due("15: both in force", s.blame(), 2);
    }

    // Promise 16: where nothing satisfies the others, everything follows.
    private static void follows() {
        LazyClauseSolver s = Setup.unsolvable();
        check.due("16: the only one, not from nothing", s.follows(0), false);
        s.differ(15);
        check.due("16: from the one that cannot be met", s.follows(1), true);
        check.due("16: the one that cannot be met", s.follows(0), false);
        s.linear(-60);
        check.due("16: each of two from the other", s.follows(0), true);
        check.due("16: and the other way round", s.follows(2), true);
        LazyClauseSolver needed = Setup.tenAllNeeded();
        needed.force(4, 0);
        check.due("16: a missing link does not follow", needed.follows(4), false);
    }

    // Promise 16: "all constraints in force other than c" where c itself is out of force.
    private static void followsOutOfForce() {
        LazyClauseSolver s = new LazyClauseSolver();
        Setup.hold(s, 1, 0, 0, 0);
        s.linear(2);
        s.linear(1);
        s.force(0, 0);
        check.due("16: the wider one, out of force", s.follows(0), true);
        s.force(0, 1);
        s.force(1, 0);
        check.due("16: the narrower one, out of force", s.follows(1), false);
        check.due("16: the wider one, with the narrower out of force", s.follows(0), false);
        s.force(0, 0);
        check.due("16: nothing in force", s.follows(0), false);
    }

    // Terms: each constraint is in force or out of force, and can be put back.
    private static void thereAndBack() {
        LazyClauseSolver s = new LazyClauseSolver();
        s.differ(15);
        Setup.impossible(s);
        for (int round = 0; round < 3; round++) {
            check.due("7: in force, solvable", s.solvable(), false);
            check.due("7: in force, after", s.after(-1), NONE);
            check.due("7: put out", s.force(1, 0), 1);
            check.due("7: out of force, solvable", s.solvable(), true);
            check.due("7: out of force, after", s.after(-1), 27);
            check.due("7: put in", s.force(1, 1), 0);
        }
        s.clear();
        check.due("8: cleared, solvable", s.solvable(), true);
        check.due("8: cleared, smallest", s.smallest(), 0);
    }
}
