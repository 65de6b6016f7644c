/** Steps that several tests begin with. */
final class Setup {
    /** Numbers far outside every range; many fall inside one if only their low bits are looked at. */
    static final int[] FAR = {
        Integer.MIN_VALUE, Integer.MIN_VALUE + 1, -65536, -65535, -257, -256,
        256 * 4, 65535, 65536, 65537, 1 << 30, Integer.MAX_VALUE - 1, Integer.MAX_VALUE
    };

    private Setup() {
    }

    static void hold(LazyClauseSolver s, int a0, int a1, int a2, int a3) {
        s.factor(0, a0);
        s.factor(1, a1);
        s.factor(2, a2);
        s.factor(3, a3);
    }

    /** Makes the constraint that no assignment satisfies: 0 <= -1. */
    static int impossible(LazyClauseSolver s) {
        hold(s, 0, 0, 0, 0);
        return s.linear(-1);
    }

    /** Fills the object up to ten constraints with ones that every assignment satisfies. */
    static void fill(LazyClauseSolver s) {
        for (int c = s.constraints(); c < 10; c++) {
            s.differ(0);
        }
    }

    static LazyClauseSolver full() {
        LazyClauseSolver s = new LazyClauseSolver();
        fill(s);
        return s;
    }

    static LazyClauseSolver unsolvable() {
        LazyClauseSolver s = new LazyClauseSolver();
        impossible(s);
        return s;
    }

    /** Ten constraints with no solution, of which any nine have one: a chain of steps. */
    static LazyClauseSolver tenAllNeeded() {
        LazyClauseSolver s = new LazyClauseSolver();
        hold(s, -1, 0, 0, 0);
        s.linear(-1);
        for (int step = 0; step < 8; step++) {
            // If variable step % 4 is above n, the next one is at least m.
            int n = step / 4;
            int next = (step + 1) % 4;
            int m = (step + 1) / 4 + 1;
            s.either(next, m, step % 4, n);
        }
        hold(s, 1, 0, 0, 0);
        s.linear(2);
        return s;
    }

    /** As many calls as there are solutions, and one more: an object has only 512 in all. */
    static int solutions(LazyClauseSolver s) {
        int found = 0;
        int at = s.after(-1);
        while (at >= 0 && found <= 256) {
            found++;
            at = s.after(at);
        }
        return found;
    }
}
