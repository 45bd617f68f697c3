/** A SeedSolver that counts its calls: after the 512th the document promises nothing, so no test may go on. */
final class Real implements Face {
    static final int MOST_CALLS = 512;

    private final SeedSolver solver;
    private int calls = 0;

    Real(int bits, int taps) {
        solver = new SeedSolver(bits, taps);
    }

    private SeedSolver counted() {
        calls++;
        if (calls > MOST_CALLS) {
            throw new IllegalStateException("the test makes more than " + MOST_CALLS + " calls on one object");
        }
        return solver;
    }

    @Override
    public boolean shifter(int chain, int set) {
        return counted().shifter(chain, set);
    }

    @Override
    public boolean want(int cube, int cycle, int chain, int value) {
        return counted().want(cube, cycle, chain, value);
    }

    @Override
    public int expand(int seed, int cycle, int chain) {
        return counted().expand(seed, cycle, chain);
    }

    @Override
    public int seeds(int set) {
        return counted().seeds(set);
    }

    @Override
    public int leastSeed(int set) {
        return counted().leastSeed(set);
    }

    @Override
    public int greatestSeed(int set) {
        return counted().greatestSeed(set);
    }

    @Override
    public int forced(int set, int cycle, int chain) {
        return counted().forced(set, cycle, chain);
    }

    @Override
    public int seedsNeeded(int set) {
        return counted().seedsNeeded(set);
    }

    @Override
    public boolean forget(int cube) {
        return counted().forget(cube);
    }
}
