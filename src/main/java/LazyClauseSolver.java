/**
 * Four variables with values 0 to 3 under at most ten constraints.
 *
 * There are only 256 assignments, so each constraint is tried on all of them once, when it is
 * made; every question after that is a walk over the assignments. An assignment is held as
 * the number 64 * v0 + 16 * v1 + 4 * v2 + v3: counting upwards is then the order of solutions.
 */
public final class LazyClauseSolver {
    public static final int BAD_ARG = -1;
    public static final int FULL = -2;
    public static final int NONE = -4;
    public static final int NO_SUM = 1000;

    private static final int VARIABLES = 4;
    private static final int VALUES = 4;
    private static final int SETS_OF_VARIABLES = 16;
    private static final int ASSIGNMENTS = 256;
    private static final int MOST_CONSTRAINTS = 10;
    private static final int LARGEST_FACTOR = 5;
    private static final int LARGEST_BOUND = 60;

    private final int[] heldFactors = new int[VARIABLES];

    // For each assignment, the set of the constraints that it breaks. Bits of constraints that
    // are no longer there may linger: they are never asked for, and making a constraint
    // writes its bit anew in every assignment.
    private final int[] broken = new int[ASSIGNMENTS];

    private int count;

    // A set of constraints, as the sum of 2 to the power c; only constraints below count are in it.
    private int inForce;

    public LazyClauseSolver() {
        count = 0;
        inForce = 0;
    }

    public int factor(int i, int a) {
        if (!isVariable(i) || a < -LARGEST_FACTOR || a > LARGEST_FACTOR) {
            return BAD_ARG;
        }
        int before = heldFactors[i];
        heldFactors[i] = a;
        return before;
    }

    public int linear(int b) {
        if (b < -LARGEST_BOUND || b > LARGEST_BOUND) {
            return BAD_ARG;
        }
        if (count >= MOST_CONSTRAINTS) {
            return FULL;
        }
        for (int assignment = 0; assignment < ASSIGNMENTS; assignment++) {
            boolean satisfied = heldSum(assignment) <= b;
            recordForNewConstraint(assignment, satisfied);
        }
        return admitNewConstraint();
    }

    public int differ(int set) {
        if (set < 0 || set >= SETS_OF_VARIABLES) {
            return BAD_ARG;
        }
        if (count >= MOST_CONSTRAINTS) {
            return FULL;
        }
        for (int assignment = 0; assignment < ASSIGNMENTS; assignment++) {
            boolean satisfied = allDifferent(set, assignment);
            recordForNewConstraint(assignment, satisfied);
        }
        return admitNewConstraint();
    }

    public int either(int i, int m, int j, int n) {
        if (!isVariable(i) || !isVariable(j) || !isValue(m) || !isValue(n)) {
            return BAD_ARG;
        }
        if (count >= MOST_CONSTRAINTS) {
            return FULL;
        }
        for (int assignment = 0; assignment < ASSIGNMENTS; assignment++) {
            boolean satisfied = valueIn(assignment, i) >= m || valueIn(assignment, j) <= n;
            recordForNewConstraint(assignment, satisfied);
        }
        return admitNewConstraint();
    }

    public int constraints() {
        return count;
    }

    public int force(int c, int on) {
        if (!isConstraint(c)) {
            return BAD_ARG;
        }
        int bit = 1 << c;
        int before = (inForce & bit) != 0 ? 1 : 0;
        if (on != 0) {
            inForce = inForce | bit;
        } else {
            inForce = inForce & ~bit;
        }
        return before;
    }

    public void clear() {
        count = 0;
        inForce = 0;
    }

    public boolean solvable() {
        return canSatisfy(inForce);
    }

    public int value(int i) {
        if (!isVariable(i)) {
            return BAD_ARG;
        }
        int first = firstSatisfying(inForce, 0);
        if (first == NONE) {
            return NONE;
        }
        return valueIn(first, i);
    }

    public int firstWith(int i, int x) {
        if (!isVariable(i) || !isValue(x)) {
            return BAD_ARG;
        }
        for (int assignment = 0; assignment < ASSIGNMENTS; assignment++) {
            if (valueIn(assignment, i) == x && satisfiesAll(inForce, assignment)) {
                return assignment;
            }
        }
        return NONE;
    }

    public int values(int i) {
        if (!isVariable(i)) {
            return BAD_ARG;
        }
        int found = 0;
        for (int assignment = 0; assignment < ASSIGNMENTS; assignment++) {
            if (satisfiesAll(inForce, assignment)) {
                found = found | 1 << valueIn(assignment, i);
            }
        }
        return found;
    }

    public int after(int from) {
        if (from < -1 || from >= ASSIGNMENTS) {
            return BAD_ARG;
        }
        return firstSatisfying(inForce, from + 1);
    }

    public int smallest() {
        int least = NO_SUM;
        for (int assignment = 0; assignment < ASSIGNMENTS; assignment++) {
            if (satisfiesAll(inForce, assignment)) {
                int sum = heldSum(assignment);
                // No sum goes beyond 60, so the first one found always replaces NO_SUM.
                if (sum < least) {
                    least = sum;
                }
            }
        }
        return least;
    }

    public int blame() {
        if (canSatisfy(inForce)) {
            return 0;
        }
        int blamed = inForce;
        for (int c = 0; c < count; c++) {
            int without = blamed & ~(1 << c);
            if (!canSatisfy(without)) {
                blamed = without;
            }
        }
        return blamed;
    }

    public boolean follows(int c) {
        if (!isConstraint(c)) {
            return false;
        }
        int bit = 1 << c;
        int others = inForce & ~bit;
        for (int assignment = 0; assignment < ASSIGNMENTS; assignment++) {
            if (satisfiesAll(others, assignment) && !satisfiesAll(bit, assignment)) {
                return false;
            }
        }
        return true;
    }

    private static boolean isVariable(int i) {
        return i >= 0 && i < VARIABLES;
    }

    private static boolean isValue(int x) {
        return x >= 0 && x < VALUES;
    }

    private boolean isConstraint(int c) {
        return c >= 0 && c < count;
    }

    private static int valueIn(int assignment, int i) {
        // Two bits a variable, variable 0 in the highest ones.
        int shift = 2 * (VARIABLES - 1 - i);
        return (assignment >> shift) & (VALUES - 1);
    }

    private int heldSum(int assignment) {
        int sum = 0;
        for (int i = 0; i < VARIABLES; i++) {
            sum = sum + heldFactors[i] * valueIn(assignment, i);
        }
        return sum;
    }

    private static boolean allDifferent(int set, int assignment) {
        int seen = 0;
        for (int i = 0; i < VARIABLES; i++) {
            if ((set & (1 << i)) != 0) {
                int bit = 1 << valueIn(assignment, i);
                if ((seen & bit) != 0) {
                    return false;
                }
                seen = seen | bit;
            }
        }
        return true;
    }

    private void recordForNewConstraint(int assignment, boolean satisfied) {
        int bit = 1 << count;
        if (satisfied) {
            broken[assignment] = broken[assignment] & ~bit;
        } else {
            broken[assignment] = broken[assignment] | bit;
        }
    }

    private int admitNewConstraint() {
        int c = count;
        inForce = inForce | 1 << c;
        count = c + 1;
        return c;
    }

    private boolean satisfiesAll(int constraintSet, int assignment) {
        return (broken[assignment] & constraintSet) == 0;
    }

    private int firstSatisfying(int constraintSet, int start) {
        for (int assignment = start; assignment < ASSIGNMENTS; assignment++) {
            if (satisfiesAll(constraintSet, assignment)) {
                return assignment;
            }
        }
        return NONE;
    }

    private boolean canSatisfy(int constraintSet) {
        return firstSatisfying(constraintSet, 0) != NONE;
    }
}
