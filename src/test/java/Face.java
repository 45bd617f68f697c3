/** The nine methods of the document, so that SeedSolver and its model can be asked the same things. */
interface Face {
    boolean shifter(int chain, int set);

    boolean want(int cube, int cycle, int chain, int value);

    int expand(int seed, int cycle, int chain);

    int seeds(int set);

    int leastSeed(int set);

    int greatestSeed(int set);

    int forced(int set, int cycle, int chain);

    int seedsNeeded(int set);

    boolean forget(int cube);
}
