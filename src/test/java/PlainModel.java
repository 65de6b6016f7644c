import java.util.ArrayList;
import java.util.List;
import java.util.function.Predicate;

/**
 * The document's words written down once more, as literally as can be: constraints are
 * predicates on four values, solutions a list in order. It shares nothing with the program.
 */
final class PlainModel {
    private static final int BAD_ARG = -1;
    private static final int FULL = -2;
    private static final int NONE = -4;
    private static final int NO_SUM = 1000;

    private final int[] held = new int[4];
    private final List<Predicate<int[]>> made = new ArrayList<>();
    private final List<Boolean> inForce = new ArrayList<>();

    int factor(int i, int a) {
        if (outside(i, 0, 3) || outside(a, -5, 5)) {
            return BAD_ARG;
        }
        int before = held[i];
        held[i] = a;
        return before;
    }

    int linear(int b) {
        int[] a = held.clone();
        return make(outside(b, -60, 60), v -> sum(a, v) <= b);
    }

    int differ(int set) {
        return make(outside(set, 0, 15), v -> noTwoAlike(set, v));
    }

    int either(int i, int m, int j, int n) {
        boolean bad = outside(i, 0, 3) || outside(m, 0, 3) || outside(j, 0, 3) || outside(n, 0, 3);
        return make(bad, v -> v[i] >= m || v[j] <= n);
    }

    int constraints() {
        return made.size();
    }

    int force(int c, int on) {
        if (outside(c, 0, made.size() - 1)) {
            return BAD_ARG;
        }
        return inForce.set(c, on != 0) ? 1 : 0;
    }

    void clear() {
        made.clear();
        inForce.clear();
    }

    boolean solvable() {
        return !solutions().isEmpty();
    }

    int value(int i) {
        if (outside(i, 0, 3)) {
            return BAD_ARG;
        }
        List<int[]> all = solutions();
        return all.isEmpty() ? NONE : all.get(0)[i];
    }

    int firstWith(int i, int x) {
        if (outside(i, 0, 3) || outside(x, 0, 3)) {
            return BAD_ARG;
        }
        for (int[] v : solutions()) {
            if (v[i] == x) {
                return number(v);
            }
        }
        return NONE;
    }

    int values(int i) {
        if (outside(i, 0, 3)) {
            return BAD_ARG;
        }
        boolean[] taken = new boolean[4];
        for (int[] v : solutions()) {
            taken[v[i]] = true;
        }
        return (taken[0] ? 1 : 0) + (taken[1] ? 2 : 0) + (taken[2] ? 4 : 0) + (taken[3] ? 8 : 0);
    }

    int after(int from) {
        if (outside(from, -1, 255)) {
            return BAD_ARG;
        }
        for (int[] v : solutions()) {
            if (number(v) > from) {
                return number(v);
            }
        }
        return NONE;
    }

    int smallest() {
        return solutions().stream().mapToInt(v -> sum(held, v)).min().orElse(NO_SUM);
    }

    int blame() {
        if (solvable()) {
            return 0;
        }
        List<Integer> s = numbersInForce();
        for (int c = 0; c < made.size(); c++) {
            List<Integer> without = new ArrayList<>(s);
            without.remove(Integer.valueOf(c));
            if (satisfying(without).isEmpty()) {
                s = without;
            }
        }
        return s.stream().mapToInt(c -> (int) Math.pow(2, c)).sum();
    }

    boolean follows(int c) {
        if (outside(c, 0, made.size() - 1)) {
            return false;
        }
        List<Integer> others = numbersInForce();
        others.remove(Integer.valueOf(c));
        return satisfying(others).stream().allMatch(made.get(c));
    }

    private static boolean outside(int x, int least, int greatest) {
        return x < least || x > greatest;
    }

    private static int sum(int[] a, int[] v) {
        return a[0] * v[0] + a[1] * v[1] + a[2] * v[2] + a[3] * v[3];
    }

    private static int number(int[] v) {
        return 64 * v[0] + 16 * v[1] + 4 * v[2] + v[3];
    }

    private static boolean noTwoAlike(int set, int[] v) {
        for (int i = 0; i < 4; i++) {
            for (int j = i + 1; j < 4; j++) {
                boolean both = set / (1 << i) % 2 == 1 && set / (1 << j) % 2 == 1;
                if (both && v[i] == v[j]) {
                    return false;
                }
            }
        }
        return true;
    }

    private int make(boolean bad, Predicate<int[]> constraint) {
        if (bad) {
            return BAD_ARG;
        }
        if (made.size() == 10) {
            return FULL;
        }
        made.add(constraint);
        inForce.add(true);
        return made.size() - 1;
    }

    private List<Integer> numbersInForce() {
        List<Integer> numbers = new ArrayList<>();
        for (int c = 0; c < made.size(); c++) {
            if (inForce.get(c)) {
                numbers.add(c);
            }
        }
        return numbers;
    }

    private List<int[]> solutions() {
        return satisfying(numbersInForce());
    }

    private List<int[]> satisfying(List<Integer> numbers) {
        List<int[]> found = new ArrayList<>();
        for (int v0 = 0; v0 < 4; v0++) {
            for (int v1 = 0; v1 < 4; v1++) {
                for (int v2 = 0; v2 < 4; v2++) {
                    for (int v3 = 0; v3 < 4; v3++) {
                        int[] v = {v0, v1, v2, v3};
                        if (numbers.stream().allMatch(c -> made.get(c).test(v))) {
                            found.add(v);
                        }
                    }
                }
            }
        }
        return found;
    }
}
