import java.util.HashSet;
import java.util.Set;

/** The document said again, word by word and without shortcuts, to compare SeedSolver with. */
final class Model implements Face {
    private final int n;
    private final boolean[] taps;
    private final boolean[][] shifters = new boolean[4][];
    private final int[][][] wants = new int[6][16][4];

    Model(int bits, int taps) {
        n = Math.max(3, Math.min(8, bits));
        this.taps = bitsOf(taps);
        for (int c = 0; c < 4; c++) {
            shifters[c] = bitsOf(1 << (c % n));
        }
        for (int k = 0; k < 6; k++) {
            forget(k);
        }
    }

    int seedCount() {
        return 1 << n;
    }

    private boolean[] bitsOf(int number) {
        boolean[] bits = new boolean[n];
        for (int b = 0; b < n; b++) {
            bits[b] = (number & (1 << b)) != 0;
        }
        return bits;
    }

    private int parity(boolean[] state, boolean[] set) {
        int ones = 0;
        for (int b = 0; b < n; b++) {
            if (state[b] && set[b]) {
                ones++;
            }
        }
        return ones % 2;
    }

    private boolean[] next(boolean[] state) {
        boolean[] after = new boolean[n];
        for (int b = 0; b < n - 1; b++) {
            after[b] = state[b + 1];
        }
        after[n - 1] = parity(state, taps) == 1;
        return after;
    }

    private static boolean in(int number, int least, int most) {
        return number >= least && number <= most;
    }

    private boolean fitsCube(int seed, int cube) {
        boolean[] state = bitsOf(seed);
        for (int cycle = 0; cycle < 16; cycle++) {
            for (int chain = 0; chain < 4; chain++) {
                int wanted = wants[cube][cycle][chain];
                if (wanted != 2 && wanted != parity(state, shifters[chain])) {
                    return false;
                }
            }
            state = next(state);
        }
        return true;
    }

    private boolean fits(int seed, int set) {
        for (int k = 0; k < 6; k++) {
            if ((set & (1 << k)) != 0 && !fitsCube(seed, k)) {
                return false;
            }
        }
        return true;
    }

    @Override
    public boolean shifter(int chain, int set) {
        if (!in(chain, 0, 3) || !in(set, 0, seedCount() - 1)) {
            return false;
        }
        shifters[chain] = bitsOf(set);
        return true;
    }

    @Override
    public boolean want(int cube, int cycle, int chain, int value) {
        if (!in(cube, 0, 5) || !in(cycle, 0, 15) || !in(chain, 0, 3) || !in(value, 0, 2)) {
            return false;
        }
        wants[cube][cycle][chain] = value;
        return true;
    }

    @Override
    public int expand(int seed, int cycle, int chain) {
        if (!in(seed, 0, seedCount() - 1) || !in(cycle, 0, 15) || !in(chain, 0, 3)) {
            return -1;
        }
        boolean[] state = bitsOf(seed);
        for (int i = 0; i < cycle; i++) {
            state = next(state);
        }
        return parity(state, shifters[chain]);
    }

    @Override
    public int seeds(int set) {
        if (!in(set, 0, 63)) {
            return -1;
        }
        int count = 0;
        for (int seed = 0; seed < seedCount(); seed++) {
            count += fits(seed, set) ? 1 : 0;
        }
        return count;
    }

    @Override
    public int leastSeed(int set) {
        if (!in(set, 0, 63)) {
            return -1;
        }
        int least = -2;
        for (int seed = seedCount() - 1; seed >= 0; seed--) {
            least = fits(seed, set) ? seed : least;
        }
        return least;
    }

    @Override
    public int greatestSeed(int set) {
        if (!in(set, 0, 63)) {
            return -1;
        }
        int greatest = -2;
        for (int seed = 0; seed < seedCount(); seed++) {
            greatest = fits(seed, set) ? seed : greatest;
        }
        return greatest;
    }

    @Override
    public int forced(int set, int cycle, int chain) {
        if (!in(set, 0, 63) || !in(cycle, 0, 15) || !in(chain, 0, 3)) {
            return -1;
        }
        Set<Integer> values = new HashSet<>();
        for (int seed = 0; seed < seedCount(); seed++) {
            if (fits(seed, set)) {
                values.add(expand(seed, cycle, chain));
            }
        }
        if (values.isEmpty()) {
            return -2;
        }
        return values.size() == 2 ? 2 : values.iterator().next();
    }

    /** Adds one seed after another to all that can be covered so far; unlike SeedSolver it goes from the empty set. */
    @Override
    public int seedsNeeded(int set) {
        if (!in(set, 0, 63)) {
            return -1;
        }
        Set<Integer> oneSeed = new HashSet<>();
        for (int seed = 0; seed < seedCount(); seed++) {
            int covered = 0;
            for (int k = 0; k < 6; k++) {
                covered |= (set & (1 << k)) != 0 && fitsCube(seed, k) ? 1 << k : 0;
            }
            oneSeed.add(covered);
        }
        Set<Integer> reached = new HashSet<>(Set.of(0));
        for (int count = 0; count <= 6; count++) {
            if (reached.contains(set)) {
                return count;
            }
            Set<Integer> further = new HashSet<>(reached);
            for (int before : reached) {
                for (int more : oneSeed) {
                    further.add(before | more);
                }
            }
            reached = further;
        }
        return -2;
    }

    @Override
    public boolean forget(int cube) {
        if (!in(cube, 0, 5)) {
            return false;
        }
        for (int[] cycle : wants[cube]) {
            java.util.Arrays.fill(cycle, 2);
        }
        return true;
    }
}
