/** Test compression by seeds of a linear feedback shift register. */
public final class SeedSolver {
    public static final int BAD = -1;
    public static final int NONE = -2;
    public static final int FREE = 2;

    private static final int LEAST_BITS = 3;
    private static final int MOST_BITS = 8;
    private static final int MOST_SEEDS = 256;
    private static final int CHAINS = 4;
    private static final int CYCLES = 16;
    private static final int CUBES = 6;
    private static final int CUBE_SETS = 64;

    private final int width;
    private final int seedCount;
    private final int tapSet;
    private final int[] shifters = new int[CHAINS];

    // There are 16 * 4 places, so a cube is two longs with one bit for each
    // place: whether it wants a value there, and which (0 where it wants none).
    private final long[] wantedPlaces = new long[CUBES];
    private final long[] wantedValues = new long[CUBES];

    // Room for seedsNeeded alone, filled anew in each call because a method
    // may make no array.
    private final int[] cubesFitted = new int[MOST_SEEDS];
    private final int[] needed = new int[CUBE_SETS];

    public SeedSolver(int bits, int taps) {
        int n = bits;
        if (n < LEAST_BITS) {
            n = LEAST_BITS;
        }
        if (n > MOST_BITS) {
            n = MOST_BITS;
        }
        width = n;
        seedCount = 1 << n;
        tapSet = taps & (seedCount - 1);
        for (int chain = 0; chain < CHAINS; chain++) {
            shifters[chain] = 1 << (chain % n);
        }
    }

    public boolean shifter(int chain, int set) {
        if (!isChain(chain) || !isState(set)) {
            return false;
        }
        shifters[chain] = set;
        return true;
    }

    public boolean want(int cube, int cycle, int chain, int value) {
        if (!isCube(cube) || !isCycle(cycle) || !isChain(chain)) {
            return false;
        }
        if (value < 0 || value > FREE) {
            return false;
        }
        long place = placeBit(cycle, chain);
        wantedPlaces[cube] &= ~place;
        wantedValues[cube] &= ~place;
        if (value != FREE) {
            wantedPlaces[cube] |= place;
        }
        if (value == 1) {
            wantedValues[cube] |= place;
        }
        return true;
    }

    public int expand(int seed, int cycle, int chain) {
        if (!isState(seed) || !isCycle(cycle) || !isChain(chain)) {
            return BAD;
        }
        return chainValue(seed, cycle, chain);
    }

    public int seeds(int set) {
        if (!isCubeSet(set)) {
            return BAD;
        }
        int count = 0;
        for (int seed = 0; seed < seedCount; seed++) {
            if (fits(seed, set)) {
                count++;
            }
        }
        return count;
    }

    public int leastSeed(int set) {
        if (!isCubeSet(set)) {
            return BAD;
        }
        for (int seed = 0; seed < seedCount; seed++) {
            if (fits(seed, set)) {
                return seed;
            }
        }
        return NONE;
    }

    public int greatestSeed(int set) {
        if (!isCubeSet(set)) {
            return BAD;
        }
        for (int seed = seedCount - 1; seed >= 0; seed--) {
            if (fits(seed, set)) {
                return seed;
            }
        }
        return NONE;
    }

    public int forced(int set, int cycle, int chain) {
        if (!isCubeSet(set) || !isCycle(cycle) || !isChain(chain)) {
            return BAD;
        }
        int common = NONE;
        for (int seed = 0; seed < seedCount; seed++) {
            if (fits(seed, set)) {
                int value = chainValue(seed, cycle, chain);
                if (common != NONE && common != value) {
                    return FREE;
                }
                common = value;
            }
        }
        return common;
    }

    public int seedsNeeded(int set) {
        if (!isCubeSet(set)) {
            return BAD;
        }
        for (int seed = 0; seed < seedCount; seed++) {
            cubesFitted[seed] = fittedBy(seed);
        }
        // What a seed leaves over of a set is a smaller number than the set,
        // so going upwards finds the answer for the rest already there.
        needed[0] = 0;
        for (int goal = 1; goal <= set; goal++) {
            needed[goal] = neededFor(goal);
        }
        return needed[set];
    }

    public boolean forget(int cube) {
        if (!isCube(cube)) {
            return false;
        }
        wantedPlaces[cube] = 0L;
        wantedValues[cube] = 0L;
        return true;
    }

    private int neededFor(int goal) {
        int least = NONE;
        for (int seed = 0; seed < seedCount; seed++) {
            int rest = goal & ~cubesFitted[seed];
            if (rest != goal && needed[rest] != NONE) {
                int count = needed[rest] + 1;
                if (least == NONE || count < least) {
                    least = count;
                }
            }
        }
        return least;
    }

    private boolean fits(int seed, int set) {
        int fitted = fittedBy(seed);
        return (fitted & set) == set;
    }

    private int fittedBy(int seed) {
        long values = allValues(seed);
        int fitted = 0;
        for (int cube = 0; cube < CUBES; cube++) {
            long wrong = (values ^ wantedValues[cube]) & wantedPlaces[cube];
            if (wrong == 0L) {
                fitted |= 1 << cube;
            }
        }
        return fitted;
    }

    private long allValues(int seed) {
        long values = 0L;
        int state = seed;
        for (int cycle = 0; cycle < CYCLES; cycle++) {
            for (int chain = 0; chain < CHAINS; chain++) {
                if (parity(state & shifters[chain]) == 1) {
                    values |= placeBit(cycle, chain);
                }
            }
            state = nextState(state);
        }
        return values;
    }

    private int chainValue(int seed, int cycle, int chain) {
        int state = seed;
        for (int passed = 0; passed < cycle; passed++) {
            state = nextState(state);
        }
        return parity(state & shifters[chain]);
    }

    private int nextState(int state) {
        int entering = parity(state & tapSet);
        return (state >> 1) | (entering << (width - 1));
    }

    private static int parity(int ones) {
        int odd = 0;
        for (int bit = 0; bit < MOST_BITS; bit++) {
            odd ^= (ones >> bit) & 1;
        }
        return odd;
    }

    private static long placeBit(int cycle, int chain) {
        return 1L << (cycle * CHAINS + chain);
    }

    // Seeds and sets of register bits have the same range.
    private boolean isState(int number) {
        return number >= 0 && number < seedCount;
    }

    private static boolean isCube(int cube) {
        return cube >= 0 && cube < CUBES;
    }

    private static boolean isCycle(int cycle) {
        return cycle >= 0 && cycle < CYCLES;
    }

    private static boolean isChain(int chain) {
        return chain >= 0 && chain < CHAINS;
    }

    private static boolean isCubeSet(int set) {
        return set >= 0 && set < CUBE_SETS;
    }
}
