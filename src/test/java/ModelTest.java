/** Long runs of mixed calls, right and wrong ones, compared with the model; the numbers come from a fixed sequence. */
public final class ModelTest {
    private static final int RUNS = 400;
    private static final int CALLS = 250;
    private static final int[] FAR = {-1, Integer.MIN_VALUE, Integer.MAX_VALUE, -2, 1 << 20, 1 << 31 | 1};

    private final Check check = new Check();
    private long sequence = 20261115L;

    public static void main(String[] args) {
        ModelTest test = new ModelTest();
        for (int run = 0; run < RUNS; run++) {
            test.mixedRun(run);
        }
        test.everyExpansion();
        test.check.end();
    }

    private int below(int bound) {
        sequence = sequence * 6364136223846793005L + 1442695040888963407L;
        return (int) ((sequence >>> 33) % bound);
    }

    /** A number of 0 .. most, or now and then one outside, mostly just outside. */
    private int about(int most) {
        int kind = below(60);
        if (kind == 0) {
            return FAR[below(FAR.length)];
        }
        if (kind == 1) {
            return below(2) == 0 ? -1 : most + 1;
        }
        return below(most + 1);
    }

    private void mixedRun(int run) {
        int bits = run % 12 == 0 ? FAR[below(FAR.length)] : 1 + run % 11;
        int taps = run % 3 == 0 ? (int) (sequence >>> 20) : below(512);
        SeedSolver solver = new SeedSolver(bits, taps);
        Model model = new Model(bits, taps);
        String where = "run " + run + ", SeedSolver(" + bits + ", " + taps + "), call ";
        for (int call = 0; call < CALLS; call++) {
            oneCall(where + call + ": ", solver, model);
        }
    }

    private void oneCall(String where, SeedSolver solver, Model model) {
        int kind = below(20);
        int set = about(63);
        int cube = about(5);
        int cycle = about(15);
        int chain = about(3);
        int state = about(model.seedCount() - 1);
        if (kind < 6) {
            int value = about(2);
            String call = "want(" + cube + ", " + cycle + ", " + chain + ", " + value + ")";
            boolean due = model.want(cube, cycle, chain, value);
            check.same(where + call, solver.want(cube, cycle, chain, value) ? 1 : 0, due ? 1 : 0);
        } else if (kind < 7) {
            boolean due = model.forget(cube);
            check.same(where + "forget(" + cube + ")", solver.forget(cube) ? 1 : 0, due ? 1 : 0);
        } else if (kind < 8) {
            boolean due = model.shifter(chain, state);
            check.same(where + "shifter(" + chain + ", " + state + ")", solver.shifter(chain, state) ? 1 : 0, due ? 1 : 0);
        } else if (kind < 10) {
            String call = "expand(" + state + ", " + cycle + ", " + chain + ")";
            check.same(where + call, solver.expand(state, cycle, chain), model.expand(state, cycle, chain));
        } else if (kind < 12) {
            check.same(where + "seeds(" + set + ")", solver.seeds(set), model.seeds(set));
        } else if (kind < 14) {
            check.same(where + "leastSeed(" + set + ")", solver.leastSeed(set), model.leastSeed(set));
        } else if (kind < 16) {
            check.same(where + "greatestSeed(" + set + ")", solver.greatestSeed(set), model.greatestSeed(set));
        } else if (kind < 18) {
            String call = "forced(" + set + ", " + cycle + ", " + chain + ")";
            check.same(where + call, solver.forced(set, cycle, chain), model.forced(set, cycle, chain));
        } else {
            check.same(where + "seedsNeeded(" + set + ")", solver.seedsNeeded(set), model.seedsNeeded(set));
        }
    }

    private void everyExpansion() {
        for (int bits = 3; bits <= 8; bits++) {
            int taps = below(1 << bits);
            Model model = new Model(bits, taps);
            for (int seed = 0; seed < 1 << bits; seed++) {
                // A new object for each seed keeps each one below its 512 calls.
                SeedSolver solver = new SeedSolver(bits, taps);
                for (int place = 0; place < 64; place++) {
                    String call = "SeedSolver(" + bits + ", " + taps + ").expand(" + seed + ", " + place / 4 + ", " + place % 4 + ")";
                    check.same(call, solver.expand(seed, place / 4, place % 4), model.expand(seed, place / 4, place % 4));
                }
            }
        }
    }
}
