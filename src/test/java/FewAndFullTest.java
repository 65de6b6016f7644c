/** No constraint at all, ten of them, and what lies next to both. */
public final class FewAndFullTest {
    private static final int BAD_ARG = -1;
    private static final int FULL = -2;
    private static final int NONE = -4;
    private static final int MOST_CALLS = 512;

    private static final Check check = new Check("FewAndFullTest");

    public static void main(String[] args) {
        noConstraint(new LazyClauseSolver(), "1: new");
        noConstraint(clearedWhenEmpty(), "8: cleared when empty");
        noConstraint(clearedWhenFull(), "8: cleared when full");
        noConstraint(clearedWhenUnsolvable(), "8: cleared when unsolvable");
        noneInForce();
        factorsOfANewObject();
        factorsStayHeld();
        numbersUpToTen();
        fullOfEachKind();
        tenOutOfForceAreFull();
        fullAndNotChanged();
        clearMakesRoom();
        nothingLingersAfterClear();
        clearKeepsTheFactors();
        tenInForceTogether();
        eachOfTenAlone();
        blameOfTen();
        followsOfTen();
        theLastCall();
        check.end();
    }

    private static LazyClauseSolver clearedWhenEmpty() {
        LazyClauseSolver s = new LazyClauseSolver();
        s.clear();
        return s;
    }

    private static LazyClauseSolver clearedWhenFull() {
        LazyClauseSolver s = Setup.tenAllNeeded();
        Setup.hold(s, 0, 0, 0, 0);
        s.clear();
        return s;
    }

    private static LazyClauseSolver clearedWhenUnsolvable() {
        LazyClauseSolver s = Setup.unsolvable();
        s.clear();
        s.clear();
        return s;
    }

    // Promise 1: "No constraint"; Promise 8: "Removes all constraints."
    private static void noConstraint(LazyClauseSolver s, String what) {
        check.due(what + ", constraints", s.constraints(), 0);
        everythingIsASolution(s, what);
        for (int c = -1; c <= 10; c++) {
            check.due(what + ", force in " + c, s.force(c, 1), BAD_ARG);
            check.due(what + ", force out " + c, s.force(c, 0), BAD_ARG);
            check.due(what + ", follows " + c, s.follows(c), false);
        }
        check.due(what + ", all are solutions", Setup.solutions(s), 256);
        check.due(what + ", the first number", s.differ(0), 0);
    }

    private static void everythingIsASolution(LazyClauseSolver s, String what) {
        check.due(what + ", solvable", s.solvable(), true);
        check.due(what + ", smallest", s.smallest(), 0);
        check.due(what + ", blame", s.blame(), 0);
        check.due(what + ", the first", s.after(-1), 0);
        check.due(what + ", the last", s.after(254), 255);
        check.due(what + ", after the last", s.after(255), NONE);
        for (int i = 0; i < 4; i++) {
            check.due(what + ", value " + i, s.value(i), 0);
            check.due(what + ", values " + i, s.values(i), 15);
            check.due(what + ", firstWith " + i, s.firstWith(i, 0), 0);
        }
    }

    // Terms: "A SOLUTION is an assignment that satisfies every constraint in force."
    private static void noneInForce() {
        LazyClauseSolver s = Setup.tenAllNeeded();
        Setup.hold(s, 0, 0, 0, 0);
        for (int c = 0; c < 10; c++) {
            s.force(c, 0);
        }
        everythingIsASolution(s, "7: ten out of force");
        for (int c = 0; c < 10; c++) {
            check.due("16: from nothing in force, " + c, s.follows(c), false);
        }
        check.due("7: ten out of force, all are solutions", Setup.solutions(s), 256);
    }

    // Promise 1: "the four factors held for the next linear constraint are 0"
    private static void factorsOfANewObject() {
        for (int i = 0; i < 4; i++) {
            check.due("1: factor " + i + " at first", new LazyClauseSolver().factor(i, 5), 0);
        }
        LazyClauseSolver zero = new LazyClauseSolver();
        zero.linear(0);
        check.due("1: 0 <= 0", Setup.solutions(zero), 256);
        LazyClauseSolver minus = new LazyClauseSolver();
        minus.linear(-1);
        check.due("1: 0 <= -1", minus.solvable(), false);
    }

    // Promise 2: "it stays held until another one is given"
    private static void factorsStayHeld() {
        LazyClauseSolver s = new LazyClauseSolver();
        Setup.hold(s, -1, -2, -4, 5);
        for (int c = 0; c < 11; c++) {
            s.linear(c);
        }
        s.smallest();
        s.clear();
        check.due("2: linear once more", s.linear(-21), 0);
        check.due("2: by the same factors", s.after(-1), 64 * 3 + 16 * 3 + 4 * 3);
        int[] held = {-1, -2, -4, 5};
        for (int i = 0; i < 4; i++) {
            check.due("2: still held for " + i + ", though like a code", s.factor(i, 3), held[i]);
            check.due("2: the other one given for " + i, s.factor(i, 3), 3);
        }
    }

    // Terms: "at most 10 CONSTRAINTS, numbered 0, 1, .. in the order in which they were made"
    private static void numbersUpToTen() {
        for (int kind = 0; kind < 3; kind++) {
            LazyClauseSolver s = new LazyClauseSolver();
            for (int c = 0; c < 10; c++) {
                check.due("6: before the constraint " + c, s.constraints(), c);
                check.due("7: not there yet", s.force(c, 0), BAD_ARG);
                check.due("6: its number, kind " + kind, make(s, kind), c);
                check.due("3, 4, 5: made in force", s.force(c, 1), 1);
            }
            check.due("6: ten", s.constraints(), 10);
            check.due("6: no eleventh, kind " + kind, make(s, kind), FULL);
            check.due("6: still ten", s.constraints(), 10);
            check.due("7: no constraint 10", s.force(10, 0), BAD_ARG);
        }
    }

    private static int make(LazyClauseSolver s, int kind) {
        return kind == 0 ? s.linear(0) : kind == 1 ? s.differ(15) : s.either(0, 3, 3, 0);
    }

    // Promises 3, 4, 5: "FULL": nine leave room for one of each kind, ten for none.
    private static void fullOfEachKind() {
        for (int kind = 0; kind < 3; kind++) {
            LazyClauseSolver nine = new LazyClauseSolver();
            for (int c = 0; c < 9; c++) {
                nine.differ(0);
            }
            check.due("3, 4, 5: the tenth, kind " + kind, make(nine, kind), 9);
            for (int next = 0; next < 3; next++) {
                check.due("3, 4, 5: FULL, kind " + next, make(nine, next), FULL);
            }
        }
        check.due("3: FULL, least b", Setup.full().linear(-60), FULL);
        check.due("3: FULL, greatest b", Setup.full().linear(60), FULL);
        check.due("4: FULL, least set", Setup.full().differ(0), FULL);
        check.due("4: FULL, greatest set", Setup.full().differ(15), FULL);
        check.due("5: FULL, least of all", Setup.full().either(0, 0, 0, 0), FULL);
        check.due("5: FULL, greatest of all", Setup.full().either(3, 3, 3, 3), FULL);
    }

    // Promise 6: "The number of constraints (in force or not)."
    private static void tenOutOfForceAreFull() {
        LazyClauseSolver s = Setup.full();
        for (int c = 0; c < 10; c++) {
            s.force(c, 0);
            check.due("6: out of force counts", s.constraints(), 10);
        }
        for (int kind = 0; kind < 3; kind++) {
            check.due("3, 4, 5: FULL with none in force, kind " + kind, make(s, kind), FULL);
        }
        for (int c = 0; c < 10; c++) {
            check.due("7: still out of force", s.force(c, 0), 0);
        }
    }

    // Terms: "A refused call answers the code named and changes nothing."
    private static void fullAndNotChanged() {
        LazyClauseSolver s = Setup.full();
        Setup.impossible(s);
        s.differ(15);
        s.either(0, 3, 3, 0);
        check.due("FULL: the refused ones do not bind", Setup.solutions(s), 256);
    }

    // Promise 8: "Removes all constraints."
    private static void clearMakesRoom() {
        LazyClauseSolver s = new LazyClauseSolver();
        for (int round = 0; round < 10; round++) {
            for (int c = 0; c < 10; c++) {
                check.due("8: number in round " + round, make(s, (round + c) % 3), c);
            }
            check.due("8: FULL in round " + round, make(s, round % 3), FULL);
            s.clear();
            check.due("8: none in round " + round, s.constraints(), 0);
        }
        check.due("8: and everything is a solution", s.after(-1), 0);
    }

    // Promise 8: what was removed does not come back with the constraints that get its numbers.
    private static void nothingLingersAfterClear() {
        for (int kind = 0; kind < 3; kind++) {
            LazyClauseSolver s = new LazyClauseSolver();
            for (int c = 0; c < 10; c++) {
                s.linear(-1);
            }
            s.force(3, 0);
            s.clear();
            for (int c = 0; c < 10; c++) {
                int made = kind == 0 ? s.linear(0) : kind == 1 ? s.differ(8) : s.either(0, 0, 3, 3);
                check.due("8: made after clear, kind " + kind, made, c);
                check.due("8: in force after clear, kind " + kind, s.force(c, 1), 1);
            }
            check.due("8: all are solutions, kind " + kind, Setup.solutions(s), 256);
        }
    }

    // Promise 8: "The factors held stay."
    private static void clearKeepsTheFactors() {
        LazyClauseSolver s = new LazyClauseSolver();
        Setup.hold(s, 5, -5, 1, -1);
        s.clear();
        check.due("8: smallest after clear", s.smallest(), -18);
        s.linear(-18);
        check.due("8: linear after clear", s.after(-1), 16 * 3 + 3);
        Setup.fill(s);
        s.clear();
        int[] held = {5, -5, 1, -1};
        for (int i = 0; i < 4; i++) {
            check.due("8: still held for " + i, s.factor(i, 0), held[i]);
        }
    }

    // Terms: ten constraints in force bind together, the first as much as the last.
    private static void tenInForceTogether() {
        for (int c = 0; c < 10; c++) {
            LazyClauseSolver s = Setup.tenAllNeeded();
            check.due("9: all ten", s.solvable(), false);
            check.due("7: out goes " + c, s.force(c, 0), 1);
            check.due("9: without " + c, s.solvable(), true);
            check.due("7: in comes " + c, s.force(c, 1), 0);
            check.due("9: all ten again, " + c, s.solvable(), false);
        }
    }

    // Promise 7: each of ten constraints keeps a state of its own.
    private static void eachOfTenAlone() {
        for (int alone = 0; alone < 10; alone++) {
            LazyClauseSolver s = Setup.full();
            s.force(alone, 0);
            for (int c = 0; c < 10; c++) {
                check.due("7: " + alone + " out, state of " + c, s.force(c, 1), c == alone ? 0 : 1);
            }
        }
    }

    // Promise 15: "for c = 0, 1, .. up to the last constraint in turn"
    private static void blameOfTen() {
        check.due("15: all ten", Setup.tenAllNeeded().blame(), 1023);
        for (int c = 0; c < 10; c++) {
            LazyClauseSolver s = new LazyClauseSolver();
            for (int before = 0; before < c; before++) {
                s.either(before % 4, 1, before % 4, 0);
            }
            Setup.impossible(s);
            check.due("15: the last alone, of " + (c + 1), s.blame(), 1 << c);
            Setup.fill(s);
            check.due("15: " + c + " of ten", s.blame(), 1 << c);
        }
        LazyClauseSolver alike = new LazyClauseSolver();
        for (int c = 0; c < 10; c++) {
            alike.linear(-1);
        }
        for (int last = 9; last >= 0; last--) {
            check.due("15: the last of many alike stays, " + last, alike.blame(), 1 << last);
            alike.force(last, 0);
        }
        check.due("15: none in force", alike.blame(), 0);
    }

    // Promise 16: "all constraints in force other than c"
    private static void followsOfTen() {
        LazyClauseSolver needed = Setup.tenAllNeeded();
        LazyClauseSolver chain = Setup.tenAllNeeded();
        chain.force(9, 0);
        for (int c = 0; c < 10; c++) {
            check.due("16: each of ten needed, " + c, needed.follows(c), false);
            check.due("16: the chain without its end, " + c, chain.follows(c), false);
        }
        LazyClauseSolver twice = new LazyClauseSolver();
        for (int c = 0; c < 10; c++) {
            twice.differ(c < 5 ? c * 3 : (c - 5) * 3);
        }
        for (int c = 0; c < 10; c++) {
            check.due("16: one that stands there twice, " + c, twice.follows(c), true);
        }
        check.due("16: no constraint 10", twice.follows(10), false);
    }

    // What it is: "An object is used for at most 512 calls after it has been made"
    private static void theLastCall() {
        LazyClauseSolver s = new LazyClauseSolver();
        int calls = 0;
        for (; calls + 3 <= MOST_CALLS - 2; calls += 3) {
            check.due("call " + calls + ": differ", s.differ(15), 0);
            check.due("call " + calls + ": after", s.after(-1), 27);
            s.clear();
        }
        for (; calls < MOST_CALLS - 2; calls++) {
            check.due("call " + calls + ": constraints", s.constraints(), 0);
        }
        check.due("the call before the last", s.differ(15), 0);
        check.due("the last call", s.after(27), 30);
    }
}
