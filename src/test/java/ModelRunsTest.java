import java.util.Random;

/** Long mixed runs of calls, each answer set beside the plain model's. The seeds are fixed. */
public final class ModelRunsTest {
    private static final int RUNS = 300;
    private static final int CALLS = 512;
    private static final int[] STRANGE = {
        Integer.MIN_VALUE, Integer.MAX_VALUE, -61, 61, -60, 60, -6, -2, 10, 16, 31, 32, 33, 255, 256
    };

    private static final Check check = new Check("ModelRunsTest");

    private final LazyClauseSolver program = new LazyClauseSolver();
    private final PlainModel model = new PlainModel();
    private final int run;
    private final Random random;
    private int call = 0;

    private ModelRunsTest(int run) {
        this.run = run;
        this.random = new Random(run);
    }

    public static void main(String[] args) {
        for (int run = 0; run < RUNS; run++) {
            ModelRunsTest one = new ModelRunsTest(run);
            while (one.call < CALLS) {
                one.call++;
                one.step();
            }
        }
        check.end();
    }

    private void due(String what, long got, long want) {
        check.due("run " + run + ", call " + call + ": " + what, got, want);
    }

    private void due(String what, boolean got, boolean want) {
        check.due("run " + run + ", call " + call + ": " + what, got, want);
    }

    /** Mostly inside the range, now and then just outside it or far from it. */
    private int about(int least, int greatest) {
        int way = random.nextInt(40);
        if (way == 0) {
            return STRANGE[random.nextInt(STRANGE.length)];
        }
        if (way == 1) {
            return random.nextBoolean() ? least - 1 : greatest + 1;
        }
        return least + random.nextInt(greatest - least + 1);
    }

    private void step() {
        int kind = random.nextInt(100);
        if (kind < 40) {
            change(kind);
        } else {
            ask(kind % 10);
        }
    }

    private void change(int kind) {
        if (kind < 14) {
            int i = about(0, 3);
            int a = about(-5, 5);
            due("factor(" + i + ", " + a + ")", program.factor(i, a), model.factor(i, a));
        } else if (kind < 19) {
            int b = random.nextInt(4) == 0 ? about(-60, 60) : about(-12, 8);
            due("linear(" + b + ")", program.linear(b), model.linear(b));
        } else if (kind < 22) {
            int set = about(0, 15);
            due("differ(" + set + ")", program.differ(set), model.differ(set));
        } else if (kind < 27) {
            int i = about(0, 3);
            int m = about(0, 3);
            int j = about(0, 3);
            int n = about(0, 3);
            String what = "either(" + i + ", " + m + ", " + j + ", " + n + ")";
            due(what, program.either(i, m, j, n), model.either(i, m, j, n));
        } else if (kind < 39) {
            int c = about(0, 9);
            int on = random.nextInt(3) == 0 ? about(-3, 3) : random.nextInt(2);
            due("force(" + c + ", " + on + ")", program.force(c, on), model.force(c, on));
        } else {
            program.clear();
            model.clear();
        }
    }

    private void ask(int kind) {
        int i = about(0, 3);
        switch (kind) {
            case 0 -> due("constraints()", program.constraints(), model.constraints());
            case 1 -> due("solvable()", program.solvable(), model.solvable());
            case 2 -> due("value(" + i + ")", program.value(i), model.value(i));
            case 3 -> {
                int x = about(0, 3);
                due("firstWith(" + i + ", " + x + ")", program.firstWith(i, x), model.firstWith(i, x));
            }
            case 4 -> due("values(" + i + ")", program.values(i), model.values(i));
            case 5 -> {
                int from = about(-1, 255);
                due("after(" + from + ")", program.after(from), model.after(from));
            }
            case 6 -> due("smallest()", program.smallest(), model.smallest());
            case 7, 8 -> due("blame()", program.blame(), model.blame());
            default -> {
                int c = about(0, 9);
                due("follows(" + c + ")", program.follows(c), model.follows(c));
            }
        }
    }
}
