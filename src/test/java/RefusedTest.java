import java.util.ArrayList;
import java.util.LinkedHashMap;
import java.util.List;
import java.util.Map;
import java.util.function.Supplier;
import java.util.function.ToIntFunction;

/**
 * "No call ever throws. A refused call answers the code named and changes nothing."
 * Two objects are brought into the same state, one of them gets the call, and then
 * everything that can be seen of the two is compared. So are they for each question.
 */
public final class RefusedTest {
    private static final int BAD_ARG = -1;
    private static final int FULL = -2;
    private static final int NONE = -4;
    private static final int FALSE = 0;

    private static final Check check = new Check("RefusedTest");

    public static void main(String[] args) {
        for (Map.Entry<String, Supplier<LazyClauseSolver>> state : states().entrySet()) {
            refused(state.getKey(), state.getValue());
            questionsChangeNothing(state.getKey(), state.getValue());
        }
        noCallThrows();
        check.end();
    }

    private static Map<String, Supplier<LazyClauseSolver>> states() {
        Map<String, Supplier<LazyClauseSolver>> states = new LinkedHashMap<>();
        states.put("new", LazyClauseSolver::new);
        states.put("some", RefusedTest::some);
        states.put("unsolvable", Setup::unsolvable);
        states.put("full", RefusedTest::fullOfSome);
        states.put("full and unsolvable", Setup::tenAllNeeded);
        states.put("full, none in force", RefusedTest::noneInForce);
        states.put("cleared", RefusedTest::cleared);
        return states;
    }

    private static LazyClauseSolver some() {
        LazyClauseSolver s = new LazyClauseSolver();
        Setup.hold(s, 1, 1, 0, -1);
        s.linear(2);
        s.differ(12);
        s.either(0, 2, 2, 1);
        s.force(1, 0);
        Setup.hold(s, 3, -2, -1, 5);
        return s;
    }

    private static LazyClauseSolver fullOfSome() {
        LazyClauseSolver s = some();
        Setup.fill(s);
        return s;
    }

    private static LazyClauseSolver noneInForce() {
        LazyClauseSolver s = Setup.tenAllNeeded();
        for (int c = 0; c < 10; c++) {
            s.force(c, 0);
        }
        return s;
    }

    private static LazyClauseSolver cleared() {
        LazyClauseSolver s = fullOfSome();
        s.clear();
        return s;
    }

    private static void refused(String state, Supplier<LazyClauseSolver> made) {
        int[] badParts = {-1, 4, Integer.MIN_VALUE, Integer.MAX_VALUE};
        for (int bad : badParts) {
            changesNothing(state, "factor(" + bad + ", 1)", made, s -> s.factor(bad, 1), BAD_ARG);
            changesNothing(state, "either(" + bad + ", 3, 1, 0)", made, s -> s.either(bad, 3, 1, 0), BAD_ARG);
            changesNothing(state, "either(0, " + bad + ", 1, 0)", made, s -> s.either(0, bad, 1, 0), BAD_ARG);
            changesNothing(state, "either(0, 3, " + bad + ", 0)", made, s -> s.either(0, 3, bad, 0), BAD_ARG);
            changesNothing(state, "either(0, 3, 1, " + bad + ")", made, s -> s.either(0, 3, 1, bad), BAD_ARG);
            changesNothing(state, "value(" + bad + ")", made, s -> s.value(bad), BAD_ARG);
            changesNothing(state, "values(" + bad + ")", made, s -> s.values(bad), BAD_ARG);
            changesNothing(state, "firstWith(" + bad + ", 0)", made, s -> s.firstWith(bad, 0), BAD_ARG);
            changesNothing(state, "firstWith(0, " + bad + ")", made, s -> s.firstWith(0, bad), BAD_ARG);
        }
        refusedFactors(state, made);
        refusedBoundsAndSets(state, made);
        refusedConstraints(state, made);
        refusedWhenFull(state, made);
        refusedWhenUnsolvable(state, made);
    }

    // Promise 2: a refused factor leaves the one that is held.
    private static void refusedFactors(String state, Supplier<LazyClauseSolver> made) {
        int[] bad = {-6, 6, Integer.MIN_VALUE, Integer.MAX_VALUE};
        for (int a : bad) {
            for (int i = 0; i < 4; i++) {
                int variable = i;
                String call = "factor(" + i + ", " + a + ")";
                changesNothing(state, call, made, s -> s.factor(variable, a), BAD_ARG);
            }
        }
    }

    // Promises 3, 4, 13: a refused constraint is not made.
    private static void refusedBoundsAndSets(String state, Supplier<LazyClauseSolver> made) {
        int[] badBounds = {-61, 61, Integer.MIN_VALUE, Integer.MAX_VALUE};
        for (int b : badBounds) {
            changesNothing(state, "linear(" + b + ")", made, s -> s.linear(b), BAD_ARG);
        }
        int[] badSets = {-1, 16, Integer.MIN_VALUE, Integer.MAX_VALUE};
        for (int set : badSets) {
            changesNothing(state, "differ(" + set + ")", made, s -> s.differ(set), BAD_ARG);
        }
        int[] badFroms = {-2, 256, Integer.MIN_VALUE, Integer.MAX_VALUE};
        for (int from : badFroms) {
            changesNothing(state, "after(" + from + ")", made, s -> s.after(from), BAD_ARG);
        }
    }

    // Promises 7, 16: where there is no constraint c.
    private static void refusedConstraints(String state, Supplier<LazyClauseSolver> made) {
        int number = made.get().constraints();
        int[] bad = {-1, number, number + 1, 31, 32, 32 + number - 1, Integer.MIN_VALUE, Integer.MAX_VALUE};
        for (int c : bad) {
            changesNothing(state, "force(" + c + ", 0)", made, s -> s.force(c, 0), BAD_ARG);
            changesNothing(state, "force(" + c + ", 1)", made, s -> s.force(c, 1), BAD_ARG);
            changesNothing(state, "follows(" + c + ")", made, s -> s.follows(c) ? 1 : 0, FALSE);
        }
    }

    // Promises 3, 4, 5: FULL.
    private static void refusedWhenFull(String state, Supplier<LazyClauseSolver> made) {
        if (made.get().constraints() < 10) {
            return;
        }
        changesNothing(state, "linear(-60)", made, s -> s.linear(-60), FULL);
        changesNothing(state, "linear(60)", made, s -> s.linear(60), FULL);
        changesNothing(state, "differ(0)", made, s -> s.differ(0), FULL);
        changesNothing(state, "differ(15)", made, s -> s.differ(15), FULL);
        changesNothing(state, "either(0, 3, 1, 0)", made, s -> s.either(0, 3, 1, 0), FULL);
        changesNothing(state, "either(3, 3, 3, 3)", made, s -> s.either(3, 3, 3, 3), FULL);
    }

    // Promises 10, 11, 13: NONE.
    private static void refusedWhenUnsolvable(String state, Supplier<LazyClauseSolver> made) {
        changesNothing(state, "after(255)", made, s -> s.after(255), NONE);
        if (made.get().solvable()) {
            return;
        }
        for (int x = 0; x <= 3; x += 3) {
            int inside = x;
            changesNothing(state, "value(" + x + ")", made, s -> s.value(inside), NONE);
            changesNothing(state, "firstWith(" + x + ", 0)", made, s -> s.firstWith(inside, 0), NONE);
            changesNothing(state, "firstWith(0, " + x + ")", made, s -> s.firstWith(0, inside), NONE);
        }
        changesNothing(state, "after(-1)", made, s -> s.after(-1), NONE);
        changesNothing(state, "after(0)", made, s -> s.after(0), NONE);
    }

    private static void changesNothing(
            String state, String call, Supplier<LazyClauseSolver> made,
            ToIntFunction<LazyClauseSolver> refused, int code) {
        LazyClauseSolver with = made.get();
        check.due(state + ": " + call, refused.applyAsInt(with), code);
        sameAsBefore(state + ": after " + call, with, made.get());
    }

    // Nothing is promised of a question but its answer: it leaves the object as it was.
    private static void questionsChangeNothing(String state, Supplier<LazyClauseSolver> made) {
        LazyClauseSolver with = made.get();
        with.constraints();
        with.solvable();
        with.smallest();
        with.blame();
        for (int x = 0; x < 4; x++) {
            with.value(x);
            with.values(x);
            with.firstWith(x, 3 - x);
            with.after(60 * x);
            with.follows(x);
        }
        sameAsBefore(state + ": after the questions", with, made.get());
    }

    private static void sameAsBefore(String what, LazyClauseSolver with, LazyClauseSolver without) {
        List<String> got = everythingSeen(with);
        List<String> want = everythingSeen(without);
        check.due(what + ", number of answers", got.size(), want.size());
        for (int k = 0; k < Math.min(got.size(), want.size()); k++) {
            boolean same = got.get(k).equals(want.get(k));
            check.due(what + ", the same " + want.get(k) + " (got " + got.get(k) + ")", same, true);
        }
    }

    /** Under 450 calls, so that with the making of it no object comes to 512; the object is used up. */
    private static List<String> everythingSeen(LazyClauseSolver s) {
        List<String> seen = new ArrayList<>();
        seen.add("constraints " + s.constraints());
        seen.add("solvable " + s.solvable());
        seen.add("smallest " + s.smallest());
        seen.add("blame " + s.blame());
        for (int i = 0; i < 4; i++) {
            seen.add("value " + s.value(i));
            seen.add("values " + s.values(i));
        }
        for (int c = 0; c <= 10; c++) {
            seen.add("follows " + s.follows(c));
        }
        seeSolutions(s, seen);
        seeEachConstraint(s, seen);
        for (int i = 0; i < 4; i++) {
            seen.add("factor " + s.factor(i, 0));
        }
        seen.add("the next constraint " + s.differ(3) + ", and then " + s.after(-1));
        return seen;
    }

    private static void seeSolutions(LazyClauseSolver s, List<String> seen) {
        int at = s.after(-1);
        while (at >= 0 && at <= 255) {
            seen.add("solution " + at);
            at = s.after(at);
        }
        seen.add("after the last " + at);
    }

    /** Whether each was in force, and then what each of them says alone. */
    private static void seeEachConstraint(LazyClauseSolver s, List<String> seen) {
        for (int c = 0; c <= 10; c++) {
            seen.add("force " + c + " " + s.force(c, 0));
        }
        for (int c = 0; c < 10; c++) {
            s.force(c, 1);
            seen.add("alone " + c + " " + s.after(-1) + " " + s.after(84) + " " + s.after(167));
            seen.add("alone " + c + " " + s.values(0) + " " + s.values(1) + " " + s.values(2) + " " + s.values(3));
            seen.add("alone " + c + " " + s.smallest());
            s.force(c, 0);
        }
    }

    // Terms: "No call ever throws.": every call with every mix of strange numbers.
    private static void noCallThrows() {
        int[] strange = {Integer.MIN_VALUE, -61, -6, -2, -1, 0, 3, 4, 9, 10, 16, 32, 61, 256, Integer.MAX_VALUE};
        for (int x : strange) {
            for (int y : strange) {
                for (Supplier<LazyClauseSolver> made : states().values()) {
                    check.due("no call throws, " + x + ", " + y, endsQuietly(made.get(), x, y), true);
                }
            }
        }
    }

    private static boolean endsQuietly(LazyClauseSolver s, int x, int y) {
        try {
            s.factor(x, y);
            s.linear(x);
            s.differ(x);
            s.either(x, y, x, y);
            s.either(x, x, y, y);
            s.either(x, y, y, x);
            s.either(0, x, 3, y);
            s.force(x, y);
            s.value(x);
            s.firstWith(x, y);
            s.values(x);
            s.after(x);
            s.follows(x);
            s.constraints();
            s.solvable();
            s.smallest();
            s.blame();
            s.clear();
            return true;
        } catch (RuntimeException thrown) {
            System.out.println(thrown);
            return false;
        }
    }
}
