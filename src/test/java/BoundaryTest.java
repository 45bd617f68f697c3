/** Each sentence of the document that names a boundary case, with a test of its own and answers worked out by hand. */
public final class BoundaryTest {
    private static final int BAD = -1;
    private static final int NONE = -2;
    private static final int FREE = 2;
    private static final int LOW = Integer.MIN_VALUE;
    private static final int HIGH = Integer.MAX_VALUE;

    private static final Check check = new Check();

    public static void main(String[] args) {
        termsBitsMoveDown();
        termsBitZeroIsLost();
        termsTopBitIsParityOfTaps();
        termsSeedIsCycleZero();
        termsLastCycle();
        termsChainIsParityOfShifter();
        termsCubeSets();
        bitsAreClamped();
        highTapsPlayNoPart();
        newShiftersWrapAround();
        newCubesWantNothing();
        shifterRefusesChain();
        shifterRefusesSet();
        shifterElseTrue();
        wantTakesEachValue();
        wantRefuses();
        wantElseTrue();
        expandBadSeed();
        expandBadCycle();
        expandBadChain();
        seedsOfTheEmptySet();
        seedsBad();
        leastSeedNone();
        leastSeedBad();
        greatestSeedNone();
        greatestSeedBad();
        forcedFree();
        forcedZeroOrOne();
        forcedNone();
        forcedBad();
        seedsNeededOfTheEmptySet();
        seedsNeededNone();
        seedsNeededBad();
        forgetRefuses();
        forgetElseTrue();
        theLastOf512Calls();
        check.end();
    }

    /** Numbers outside 0..most: just beside it, far off, and such as fall inside when cut to fewer bits. */
    private static int[] outside(int most) {
        return new int[] {-1, most + 1, -2, most + 2, 256, 65536, LOW, LOW + 1, HIGH};
    }

    private static String made(int bits, int taps) {
        return "SeedSolver(" + bits + ", " + taps + ").";
    }

    /** Makes a cube want one whole seed: with the first shifters, chain 0 gets bit b in cycle b. */
    private static void wantSeed(SeedSolver x, int cube, int bits, int seed) {
        for (int b = 0; b < bits; b++) {
            check.yes("want a seed's bit", x.want(cube, b, 0, seed >> b & 1));
        }
    }

    /** Makes a cube want what no seed gives; without taps only zeros are left in cycle 15. */
    private static void wantTheImpossible(SeedSolver x, int cube) {
        check.yes("want(" + cube + ", 15, 0, 1)", x.want(cube, 15, 0, 1));
    }

    /** An object without taps whose six cubes no seed fits. */
    private static SeedSolver withoutFit(int bits) {
        SeedSolver x = new SeedSolver(bits, 0);
        for (int cube = 0; cube < 6; cube++) {
            wantTheImpossible(x, cube);
        }
        return x;
    }

    private static int[] edgeTaps(int n) {
        int all = (1 << n) - 1;
        return new int[] {0, 1, 2, 1 << n - 1, 1 | 1 << n - 1, all - 1, all >> 1, all};
    }

    private static void termsBitsMoveDown() {
        check.sentence("Terms", "all bits move one place down (bit b takes the value of bit b + 1)");
        for (int n = 3; n <= 8; n++) {
            for (int taps : edgeTaps(n)) {
                for (int b = 0; b < n - 1; b++) {
                    SeedSolver x = new SeedSolver(n, taps);
                    check.yes("shifter(0, " + (1 << b) + ")", x.shifter(0, 1 << b));
                    for (int seed = 0; seed < 1 << n; seed++) {
                        String call = made(n, taps) + "expand(" + seed + ", 1, 0) for bit " + b;
                        check.same(call, x.expand(seed, 1, 0), seed >> b + 1 & 1);
                    }
                }
            }
        }
    }

    private static void termsBitZeroIsLost() {
        check.sentence("Terms", "bit 0 is lost");
        for (int n = 3; n <= 8; n++) {
            int all = (1 << n) - 1;
            for (int taps : new int[] {0, 2, all - 1}) {
                SeedSolver x = new SeedSolver(n, taps);
                check.yes("shifter(1, all)", x.shifter(1, all));
                check.same(made(n, taps) + "expand(1, 0, 0)", x.expand(1, 0, 0), 1);
                for (int cycle = 1; cycle < 16; cycle++) {
                    check.same(made(n, taps) + "expand(1, " + cycle + ", 0)", x.expand(1, cycle, 0), 0);
                    check.same(made(n, taps) + "expand(1, " + cycle + ", 1)", x.expand(1, cycle, 1), 0);
                }
            }
        }
    }

    private static void termsTopBitIsParityOfTaps() {
        check.sentence("Terms", "bit N-1 becomes the parity (1 if odd, else 0) of the number of ones"
            + " among the state's bits that are in the set TAPS");
        for (int n = 3; n <= 8; n++) {
            for (int taps : edgeTaps(n)) {
                SeedSolver x = new SeedSolver(n, taps);
                check.yes("shifter(0, " + (1 << n - 1) + ")", x.shifter(0, 1 << n - 1));
                for (int seed = 0; seed < 1 << n; seed++) {
                    String call = made(n, taps) + "expand(" + seed + ", 1, 0) for the top bit";
                    check.same(call, x.expand(seed, 1, 0), Integer.bitCount(seed & taps) % 2);
                }
            }
        }
    }

    private static void termsSeedIsCycleZero() {
        check.sentence("Terms", "The seed is the state of cycle 0.");
        for (int n = 3; n <= 8; n++) {
            for (int b = 0; b < n; b++) {
                SeedSolver x = new SeedSolver(n, -1);
                check.yes("shifter(3, " + (1 << b) + ")", x.shifter(3, 1 << b));
                for (int seed = 0; seed < 1 << n; seed++) {
                    check.same(made(n, -1) + "expand(" + seed + ", 0, 3)", x.expand(seed, 0, 3), seed >> b & 1);
                }
                check.yes("want(0, 0, 3, 1)", x.want(0, 0, 3, 1));
                check.same("seeds(1)", x.seeds(1), 1 << n - 1);
                check.same("leastSeed(1)", x.leastSeed(1), 1 << b);
                check.same("greatestSeed(1)", x.greatestSeed(1), (1 << n) - 1);
                check.same("forced(1, 0, 3)", x.forced(1, 0, 3), 1);
                check.yes("want(0, 0, 3, 0)", x.want(0, 0, 3, 0));
                check.same("leastSeed(1)", x.leastSeed(1), 0);
                check.same("greatestSeed(1)", x.greatestSeed(1), (1 << n) - 1 - (1 << b));
                check.same("forced(1, 0, 3)", x.forced(1, 0, 3), 0);
            }
        }
    }

    private static void termsLastCycle() {
        check.sentence("Terms", "in each cycle, 0 to 15");
        for (int n = 3; n <= 8; n++) {
            // With bit 0 as the only tap the register turns: in cycle 15 bit b is the seed's bit b + 15 mod N.
            SeedSolver x = new SeedSolver(n, 1);
            int shown = 1 << 15 % n;
            for (int b = 0; b < n; b++) {
                for (int chain = 0; chain < 4; chain++) {
                    String call = made(n, 1) + "expand(" + (1 << b) + ", 15, " + chain + ")";
                    check.same(call, x.expand(1 << b, 15, chain), (chain + 15) % n == b ? 1 : 0);
                }
            }
            check.yes("want(5, 15, 0, 1)", x.want(5, 15, 0, 1));
            check.same("seeds(32)", x.seeds(32), 1 << n - 1);
            check.same("leastSeed(32)", x.leastSeed(32), shown);
            check.same("forced(32, 15, 0)", x.forced(32, 15, 0), 1);
            check.same("forced(32, 15 - N, 0)", x.forced(32, 15 - n, 0), 1);
            check.same("forced(32, 14, 0)", x.forced(32, 14, 0), FREE);
            check.yes("want(5, 15, 0, 0)", x.want(5, 15, 0, 0));
            check.same("greatestSeed(32)", x.greatestSeed(32), (1 << n) - 1 - shown);
            check.same("forced(32, 15, 0)", x.forced(32, 15, 0), 0);
        }
        // Seed 1 with the taps 1001 runs through all 15 states and is back in cycle 15.
        SeedSolver y = new SeedSolver(4, 9);
        for (int chain = 0; chain < 4; chain++) {
            check.same("expand(1, 15, " + chain + ")", y.expand(1, 15, chain), chain == 0 ? 1 : 0);
            check.same("expand(1, 14, " + chain + ")", y.expand(1, 14, chain), chain == 1 ? 1 : 0);
        }
    }

    private static void termsChainIsParityOfShifter() {
        check.sentence("Terms", "chain c gets the parity of the number of ones among the state's bits"
            + " that are in the set SHIFTER(c)");
        for (int n = 3; n <= 8; n++) {
            for (int set : edgeTaps(n)) {
                for (int chain = 0; chain < 4; chain++) {
                    SeedSolver x = new SeedSolver(n, 1);
                    check.yes("shifter(" + chain + ", " + set + ")", x.shifter(chain, set));
                    for (int seed = 0; seed < 1 << n; seed++) {
                        String call = "after it expand(" + seed + ", 0, " + chain + ")";
                        check.same(call, x.expand(seed, 0, chain), Integer.bitCount(seed & set) % 2);
                    }
                }
            }
        }
    }

    private static void termsCubeSets() {
        check.sentence("Terms", "A set of cubes is written as a number from 0 to 63 whose bit k speaks of cube k.");
        SeedSolver x = new SeedSolver(6, 0);
        for (int cube = 0; cube < 6; cube++) {
            check.yes("want(" + cube + ", " + cube + ", 0, 1)", x.want(cube, cube, 0, 1));
        }
        for (int set = 0; set < 64; set++) {
            check.same("seeds(" + set + ")", x.seeds(set), 1 << 6 - Integer.bitCount(set));
            check.same("leastSeed(" + set + ")", x.leastSeed(set), set);
            check.same("greatestSeed(" + set + ")", x.greatestSeed(set), 63);
        }
    }

    private static void bitsAreClamped() {
        check.sentence("Promise 1", "N is bits clamped into 3..8");
        int[] bits = {LOW, LOW + 3, -5, -1, 0, 1, 2, 3, 4, 5, 6, 7, 8, 9, 10, 35, 256 + 3, 65536 + 3, HIGH};
        for (int given : bits) {
            int n = given < 3 ? 3 : given > 8 ? 8 : given;
            SeedSolver x = new SeedSolver(given, 1);
            String made = made(given, 1);
            int greatest = (1 << n) - 1;
            check.same(made + "seeds(0)", x.seeds(0), greatest + 1);
            check.same(made + "leastSeed(0)", x.leastSeed(0), 0);
            check.same(made + "greatestSeed(0)", x.greatestSeed(0), greatest);
            for (int cycle = 0; cycle < 16; cycle++) {
                String call = made + "expand(1, " + cycle + ", 0)";
                check.same(call, x.expand(1, cycle, 0), cycle % n == 0 ? 1 : 0);
            }
            check.same(made + "expand(2^N - 1, 0, 0)", x.expand(greatest, 0, 0), 1);
            check.same(made + "expand(2^N, 0, 0)", x.expand(greatest + 1, 0, 0), BAD);
            check.yes(made + "shifter(0, 2^N - 1)", x.shifter(0, greatest));
            check.no(made + "shifter(0, 2^N)", x.shifter(0, greatest + 1));
        }
    }

    private static void highTapsPlayNoPart() {
        check.sentence("Promise 1", "TAPS is the set of the lowest N bits of taps (any int; higher bits play no part).");
        for (int bits = 2; bits <= 9; bits++) {
            int n = bits < 3 ? 3 : bits > 8 ? 8 : bits;
            int all = (1 << n) - 1;
            int[] given = {0, 1, 1 << n - 1, all, all + 1, all + 2, ~all, -1, LOW, LOW + 1, HIGH, HIGH - 1, 0x55555555, 0xAAAAAAAA};
            for (int taps : given) {
                SeedSolver x = new SeedSolver(bits, taps);
                for (int b = 0; b < n; b++) {
                    // What enters after cycle 0 comes to bit 0, and so to chain 0, in cycle N.
                    String call = made(bits, taps) + "expand(" + (1 << b) + ", " + n + ", 0)";
                    check.same(call, x.expand(1 << b, n, 0), taps >> b & 1);
                }
                SeedSolver low = new SeedSolver(bits, taps & all);
                for (int cycle = 0; cycle < 16; cycle++) {
                    for (int chain = 0; chain < 4; chain++) {
                        String call = made(bits, taps) + "expand(" + all + ", " + cycle + ", " + chain + ")";
                        check.same(call, x.expand(all, cycle, chain), low.expand(all, cycle, chain));
                    }
                }
            }
        }
    }

    private static void newShiftersWrapAround() {
        check.sentence("Promise 1", "SHIFTER(c) is bit c mod N alone.");
        for (int bits = 2; bits <= 9; bits++) {
            int n = bits < 3 ? 3 : bits > 8 ? 8 : bits;
            for (int chain = 0; chain < 4; chain++) {
                // Only a register of three bits is too short for chain 3, which goes round to bit 0.
                int bit = n == 3 && chain == 3 ? 0 : chain;
                SeedSolver x = new SeedSolver(bits, 0);
                for (int seed = 0; seed < 1 << n; seed++) {
                    String call = made(bits, 0) + "expand(" + seed + ", 0, " + chain + ")";
                    check.same(call, x.expand(seed, 0, chain), seed >> bit & 1);
                }
            }
        }
    }

    private static void newCubesWantNothing() {
        check.sentence("Promise 1", "All cubes want nothing.");
        for (int n = 3; n <= 8; n++) {
            SeedSolver x = new SeedSolver(n, -1);
            for (int set = 0; set < 64; set++) {
                check.same(made(n, -1) + "seeds(" + set + ")", x.seeds(set), 1 << n);
                check.same(made(n, -1) + "leastSeed(" + set + ")", x.leastSeed(set), 0);
                check.same(made(n, -1) + "greatestSeed(" + set + ")", x.greatestSeed(set), (1 << n) - 1);
                check.same(made(n, -1) + "forced(" + set + ", 0, 3)", x.forced(set, 0, 3), FREE);
                check.same(made(n, -1) + "forced(" + set + ", 15, 0)", x.forced(set, 15, 0), FREE);
                check.same(made(n, -1) + "seedsNeeded(" + set + ")", x.seedsNeeded(set), set == 0 ? 0 : 1);
            }
        }
    }

    private static void shifterRefusesChain() {
        check.sentence("Promise 2", "chain outside 0..3 [..]: refused, answers false");
        for (int n = 3; n <= 8; n++) {
            SeedSolver x = new SeedSolver(n, 0);
            for (int chain : outside(3)) {
                check.no("shifter(" + chain + ", 0)", x.shifter(chain, 0));
                check.no("shifter(" + chain + ", 2^N - 1)", x.shifter(chain, (1 << n) - 1));
                check.no("shifter(" + chain + ", 2^N)", x.shifter(chain, 1 << n));
            }
            firstShiftersStand(x, n);
        }
    }

    private static void shifterRefusesSet() {
        check.sentence("Promise 2", "[..] or set outside 0 .. 2^N - 1: refused, answers false");
        for (int n = 3; n <= 8; n++) {
            SeedSolver x = new SeedSolver(n, 0);
            for (int set : outside((1 << n) - 1)) {
                for (int chain = 0; chain < 4; chain++) {
                    check.no(made(n, 0) + "shifter(" + chain + ", " + set + ")", x.shifter(chain, set));
                }
            }
            firstShiftersStand(x, n);
        }
    }

    private static void firstShiftersStand(SeedSolver x, int n) {
        for (int chain = 0; chain < 4; chain++) {
            for (int b = 0; b < n; b++) {
                String call = "after the refusal expand(" + (1 << b) + ", 0, " + chain + ")";
                check.same(call, x.expand(1 << b, 0, chain), b == chain % n ? 1 : 0);
            }
        }
    }

    private static void shifterElseTrue() {
        check.sentence("Promise 2", "Else true.");
        for (int n = 3; n <= 8; n++) {
            for (int chain = 0; chain < 4; chain++) {
                SeedSolver x = new SeedSolver(n, 0);
                int all = (1 << n) - 1;
                for (int set = 0; set <= all; set++) {
                    check.yes(made(n, 0) + "shifter(" + chain + ", " + set + ")", x.shifter(chain, set));
                    check.same("after it expand(2^N - 1, 0, " + chain + ")", x.expand(all, 0, chain), Integer.bitCount(set) % 2);
                }
            }
        }
    }

    private static void wantTakesEachValue() {
        check.sentence("Promise 3", "value 0 or 1, or FREE for nothing");
        int[][] places = {{0, 0, 0}, {5, 0, 3}, {0, 7, 0}, {5, 7, 3}, {3, 15, 0}, {5, 15, 3}};
        for (int[] p : places) {
            for (int before = 0; before <= 2; before++) {
                for (int after = 0; after <= 2; after++) {
                    // The register turns, so that each place shows one bit of the seed.
                    SeedSolver x = new SeedSolver(8, 1);
                    int bit = 1 << (p[1] + p[2]) % 8;
                    String call = "want(" + p[0] + ", " + p[1] + ", " + p[2] + ", " + after + ") after " + before;
                    check.yes("want the value " + before, x.want(p[0], p[1], p[2], before));
                    check.yes(call, x.want(p[0], p[1], p[2], after));
                    check.same(call + ": seeds", x.seeds(1 << p[0]), after == FREE ? 256 : 128);
                    check.same(call + ": least", x.leastSeed(1 << p[0]), after == 1 ? bit : 0);
                    check.same(call + ": greatest", x.greatestSeed(1 << p[0]), after == 0 ? 255 - bit : 255);
                    check.same(call + ": forced", x.forced(1 << p[0], p[1], p[2]), after);
                    check.same(call + ": the other cubes", x.seeds(63 - (1 << p[0])), 256);
                }
            }
        }
    }

    private static void wantRefuses() {
        String[] names = {"cube outside 0..5", "cycle outside 0..15", "chain outside 0..3", "value outside 0..2"};
        int[] most = {5, 15, 3, 2};
        for (int argument = 0; argument < 4; argument++) {
            check.sentence("Promise 3", names[argument] + " [..]: refused, answers false");
            // The cubes want nothing, so a want that slips through takes seeds away; RefusedTest has the fuller states.
            SeedSolver x = new SeedSolver(8, 1);
            int[][] others = {{0, 0, 0, 0}, {0, 0, 0, 1}, {5, 15, 3, 0}, {5, 15, 3, 1}, {2, 7, 1, FREE}};
            for (int wrong : outside(most[argument])) {
                for (int[] other : others) {
                    int[] a = other.clone();
                    a[argument] = wrong;
                    String call = "want(" + a[0] + ", " + a[1] + ", " + a[2] + ", " + a[3] + ")";
                    check.no(call, x.want(a[0], a[1], a[2], a[3]));
                }
            }
            for (int set = 0; set < 64; set++) {
                check.same("after the refusal seeds(" + set + ")", x.seeds(set), 256);
            }
        }
        check.sentence("Promise 3", "refused, with every argument wrong at once");
        SeedSolver y = new SeedSolver(3, 1);
        check.no("want(-1, -1, -1, -1)", y.want(-1, -1, -1, -1));
        check.no("want(6, 16, 4, 3)", y.want(6, 16, 4, 3));
        check.same("seeds(63)", y.seeds(63), 8);
    }

    private static void wantElseTrue() {
        check.sentence("Promise 3", "Else true.");
        for (int cube = 0; cube < 6; cube++) {
            SeedSolver x = new SeedSolver(3, 1);
            for (int place = 0; place < 64; place++) {
                for (int value = 0; value <= 2; value++) {
                    String call = "want(" + cube + ", " + place / 4 + ", " + place % 4 + ", " + value + ")";
                    check.yes(call, x.want(cube, place / 4, place % 4, value));
                }
            }
            check.same("all are FREE again: seeds(63)", x.seeds(63), 8);
        }
    }

    private static void expandBadSeed() {
        check.sentence("Promise 4", "BAD if seed [..] is out of range");
        for (int n = 3; n <= 8; n++) {
            SeedSolver x = new SeedSolver(n, 1);
            for (int seed : outside((1 << n) - 1)) {
                check.same(made(n, 1) + "expand(" + seed + ", 0, 0)", x.expand(seed, 0, 0), BAD);
                check.same(made(n, 1) + "expand(" + seed + ", 15, 3)", x.expand(seed, 15, 3), BAD);
            }
            check.same(made(n, 1) + "expand(0, 0, 0)", x.expand(0, 0, 0), 0);
            check.same(made(n, 1) + "expand(2^N - 1, 0, 0)", x.expand((1 << n) - 1, 0, 0), 1);
        }
    }

    private static void expandBadCycle() {
        check.sentence("Promise 4", "BAD if [..] cycle [..] is out of range");
        for (int n = 3; n <= 8; n++) {
            SeedSolver x = new SeedSolver(n, 1);
            for (int cycle : outside(15)) {
                check.same(made(n, 1) + "expand(0, " + cycle + ", 0)", x.expand(0, cycle, 0), BAD);
                check.same(made(n, 1) + "expand(7, " + cycle + ", 3)", x.expand(7, cycle, 3), BAD);
            }
            check.same(made(n, 1) + "expand(2^N - 1, 15, 0)", x.expand((1 << n) - 1, 15, 0), 1);
        }
    }

    private static void expandBadChain() {
        check.sentence("Promise 4", "BAD if [..] chain is out of range");
        for (int n = 3; n <= 8; n++) {
            SeedSolver x = new SeedSolver(n, 1);
            for (int chain : outside(3)) {
                check.same(made(n, 1) + "expand(0, 0, " + chain + ")", x.expand(0, 0, chain), BAD);
                check.same(made(n, 1) + "expand(7, 15, " + chain + ")", x.expand(7, 15, chain), BAD);
                check.same(made(n, 1) + "expand(-1, 16, " + chain + ")", x.expand(-1, 16, chain), BAD);
            }
            check.same(made(n, 1) + "expand(2^N - 1, 0, 3)", x.expand((1 << n) - 1, 0, 3), 1);
        }
    }

    private static void seedsOfTheEmptySet() {
        check.sentence("Promise 5", "2^N for the empty set");
        for (int n = 3; n <= 8; n++) {
            check.same(made(n, 1) + "seeds(0)", new SeedSolver(n, 1).seeds(0), 1 << n);
            SeedSolver x = withoutFit(n);
            check.same("beside cubes without fit, seeds(0)", x.seeds(0), 1 << n);
            check.same("a set without fit, seeds(63)", x.seeds(63), 0);
        }
    }

    private static void seedsBad() {
        check.sentence("Promise 5", "BAD for set outside 0..63.");
        SeedSolver x = new SeedSolver(8, 1);
        SeedSolver y = withoutFit(3);
        for (int set : outside(63)) {
            check.same("seeds(" + set + ")", x.seeds(set), BAD);
            check.same("without fit, seeds(" + set + ")", y.seeds(set), BAD);
        }
        check.same("seeds(63)", x.seeds(63), 256);
    }

    private static void leastSeedNone() {
        check.sentence("Promise 6", "NONE if there is none");
        for (int n = 3; n <= 8; n++) {
            SeedSolver x = withoutFit(n);
            for (int set = 1; set < 64; set++) {
                check.same("without fit, leastSeed(" + set + ")", x.leastSeed(set), NONE);
            }
            check.same("the empty set, leastSeed(0)", x.leastSeed(0), 0);
            SeedSolver y = new SeedSolver(n, 0);
            wantSeed(y, 0, n, 0);
            wantSeed(y, 5, n, (1 << n) - 1);
            check.same("the first seed alone, leastSeed(1)", y.leastSeed(1), 0);
            check.same("the last seed alone, leastSeed(32)", y.leastSeed(32), (1 << n) - 1);
            check.same("each has one, both have none, leastSeed(33)", y.leastSeed(33), NONE);
        }
    }

    private static void leastSeedBad() {
        check.sentence("Promise 6", "BAD for set outside 0..63.");
        SeedSolver x = new SeedSolver(8, 1);
        SeedSolver y = withoutFit(3);
        for (int set : outside(63)) {
            check.same("leastSeed(" + set + ")", x.leastSeed(set), BAD);
            check.same("without fit, leastSeed(" + set + ")", y.leastSeed(set), BAD);
        }
        check.same("leastSeed(63)", x.leastSeed(63), 0);
    }

    private static void greatestSeedNone() {
        check.sentence("Promise 7", "NONE if there is none");
        for (int n = 3; n <= 8; n++) {
            SeedSolver x = withoutFit(n);
            for (int set = 1; set < 64; set++) {
                check.same("without fit, greatestSeed(" + set + ")", x.greatestSeed(set), NONE);
            }
            check.same("the empty set, greatestSeed(0)", x.greatestSeed(0), (1 << n) - 1);
            SeedSolver y = new SeedSolver(n, 0);
            wantSeed(y, 0, n, 0);
            wantSeed(y, 5, n, (1 << n) - 1);
            check.same("the first seed alone, greatestSeed(1)", y.greatestSeed(1), 0);
            check.same("the last seed alone, greatestSeed(32)", y.greatestSeed(32), (1 << n) - 1);
            check.same("each has one, both have none, greatestSeed(33)", y.greatestSeed(33), NONE);
        }
    }

    private static void greatestSeedBad() {
        check.sentence("Promise 7", "BAD for set outside 0..63.");
        SeedSolver x = new SeedSolver(8, 1);
        SeedSolver y = withoutFit(3);
        for (int set : outside(63)) {
            check.same("greatestSeed(" + set + ")", x.greatestSeed(set), BAD);
            check.same("without fit, greatestSeed(" + set + ")", y.greatestSeed(set), BAD);
        }
        check.same("greatestSeed(63)", x.greatestSeed(63), 255);
    }

    /** Cube 0 is fitted by the first and the last seed alone: all bits of the seed are to be the same. */
    private static SeedSolver firstAndLastSeed(int n) {
        SeedSolver x = new SeedSolver(n, 0);
        check.yes("shifter(0, 3)", x.shifter(0, 3));
        for (int cycle = 0; cycle < n - 1; cycle++) {
            check.yes("want(0, " + cycle + ", 0, 0)", x.want(0, cycle, 0, 0));
        }
        return x;
    }

    private static void forcedFree() {
        check.sentence("Promise 8", "FREE if it differs between them");
        for (int n = 3; n <= 8; n++) {
            SeedSolver x = firstAndLastSeed(n);
            check.same("two seeds fit, seeds(1)", x.seeds(1), 2);
            check.same("forced(1, 0, 1)", x.forced(1, 0, 1), FREE);
            check.same("forced(1, N - 2, 1)", x.forced(1, n - 2, 1), FREE);
            check.same("the same with both, forced(1, 0, 0)", x.forced(1, 0, 0), 0);
            SeedSolver y = new SeedSolver(n, 1);
            for (int place = 0; place < 64; place++) {
                String call = made(n, 1) + "forced(0, " + place / 4 + ", " + place % 4 + ")";
                check.same(call, y.forced(0, place / 4, place % 4), FREE);
            }
        }
    }

    private static void forcedZeroOrOne() {
        check.sentence("Promise 8", "The value that chain gets in cycle with every seed that fits a set of cubes: 0 or 1");
        for (int n = 3; n <= 8; n++) {
            for (int seed : new int[] {0, 1, (1 << n - 1) - 1, 1 << n - 1, (1 << n) - 1}) {
                SeedSolver x = new SeedSolver(n, 0);
                wantSeed(x, 5, n, seed);
                for (int place = 0; place < 64; place++) {
                    int bit = place / 4 + place % 4 % n;
                    String call = "with the seed " + seed + " alone, forced(32, " + place / 4 + ", " + place % 4 + ")";
                    check.same(call, x.forced(32, place / 4, place % 4), seed >> bit & 1);
                }
            }
        }
    }

    private static void forcedNone() {
        check.sentence("Promise 8", "NONE if no seed fits");
        for (int n = 3; n <= 8; n++) {
            SeedSolver x = withoutFit(n);
            for (int set = 1; set < 64; set++) {
                check.same("forced(" + set + ", 0, 0)", x.forced(set, 0, 0), NONE);
                check.same("forced(" + set + ", 15, 3)", x.forced(set, 15, 3), NONE);
            }
            check.same("the empty set, forced(0, 0, 0)", x.forced(0, 0, 0), FREE);
            check.same("the empty set, forced(0, 15, 3)", x.forced(0, 15, 3), 0);
        }
    }

    private static void forcedBad() {
        SeedSolver x = new SeedSolver(4, 1);
        SeedSolver y = withoutFit(4);
        check.sentence("Promise 8", "BAD if set [..] is out of range");
        for (int set : outside(63)) {
            check.same("forced(" + set + ", 0, 0)", x.forced(set, 0, 0), BAD);
            check.same("forced(" + set + ", 15, 3)", x.forced(set, 15, 3), BAD);
            check.same("without fit, forced(" + set + ", 0, 0)", y.forced(set, 0, 0), BAD);
        }
        check.sentence("Promise 8", "BAD if [..] cycle [..] is out of range");
        for (int cycle : outside(15)) {
            check.same("forced(0, " + cycle + ", 0)", x.forced(0, cycle, 0), BAD);
            check.same("forced(63, " + cycle + ", 3)", x.forced(63, cycle, 3), BAD);
            check.same("without fit, forced(63, " + cycle + ", 0)", y.forced(63, cycle, 0), BAD);
        }
        check.sentence("Promise 8", "BAD if [..] chain is out of range");
        for (int chain : outside(3)) {
            check.same("forced(0, 0, " + chain + ")", x.forced(0, 0, chain), BAD);
            check.same("forced(63, 15, " + chain + ")", x.forced(63, 15, chain), BAD);
            check.same("without fit, forced(63, 0, " + chain + ")", y.forced(63, 0, chain), BAD);
        }
        check.sentence("Promise 8", "the edges of the range are not BAD");
        check.same("forced(63, 15, 3)", x.forced(63, 15, 3), FREE);
        check.same("forced(0, 0, 0)", x.forced(0, 0, 0), FREE);
    }

    private static void seedsNeededOfTheEmptySet() {
        check.sentence("Promise 9", "0 for the empty set");
        for (int n = 3; n <= 8; n++) {
            check.same(made(n, 1) + "seedsNeeded(0)", new SeedSolver(n, 1).seedsNeeded(0), 0);
            SeedSolver x = withoutFit(n);
            check.same("beside cubes without fit, seedsNeeded(0)", x.seedsNeeded(0), 0);
            check.same("seedsNeeded(63)", x.seedsNeeded(63), NONE);
            check.same("after a larger set, seedsNeeded(0)", x.seedsNeeded(0), 0);
        }
    }

    private static void seedsNeededNone() {
        check.sentence("Promise 9", "NONE if some cube of the set is fitted by no seed");
        for (int without = 0; without < 6; without++) {
            SeedSolver x = new SeedSolver(3, 0);
            for (int cube = 0; cube < 6; cube++) {
                wantSeed(x, cube, 3, cube + 2);
            }
            wantTheImpossible(x, without);
            for (int set = 0; set < 64; set++) {
                boolean none = (set & 1 << without) != 0;
                String call = "cube " + without + " without fit, seedsNeeded(" + set + ")";
                check.same(call, x.seedsNeeded(set), none ? NONE : Integer.bitCount(set));
            }
        }
        // That no seed fits all at once is not that a cube is fitted by none.
        SeedSolver y = new SeedSolver(8, 0);
        check.yes("want(0, 0, 0, 0)", y.want(0, 0, 0, 0));
        check.yes("want(1, 0, 0, 1)", y.want(1, 0, 0, 1));
        check.same("seedsNeeded(3)", y.seedsNeeded(3), 2);
        check.same("seedsNeeded(63)", y.seedsNeeded(63), 2);
    }

    private static void seedsNeededBad() {
        check.sentence("Promise 9", "BAD for set outside 0..63.");
        SeedSolver x = new SeedSolver(8, 1);
        SeedSolver y = withoutFit(3);
        for (int set : outside(63)) {
            check.same("seedsNeeded(" + set + ")", x.seedsNeeded(set), BAD);
            check.same("without fit, seedsNeeded(" + set + ")", y.seedsNeeded(set), BAD);
        }
        check.same("seedsNeeded(63)", x.seedsNeeded(63), 1);
    }

    private static void forgetRefuses() {
        check.sentence("Promise 10", "cube outside 0..5: refused, answers false.");
        SeedSolver x = new SeedSolver(3, 0);
        for (int cube = 0; cube < 6; cube++) {
            wantSeed(x, cube, 3, cube + 2);
        }
        for (int cube : outside(5)) {
            check.no("forget(" + cube + ")", x.forget(cube));
        }
        for (int cube = 0; cube < 6; cube++) {
            check.same("after the refusal seeds(" + (1 << cube) + ")", x.seeds(1 << cube), 1);
            check.same("after the refusal leastSeed(" + (1 << cube) + ")", x.leastSeed(1 << cube), cube + 2);
        }
    }

    private static void forgetElseTrue() {
        check.sentence("Promise 10", "Else true.");
        for (int cube = 0; cube < 6; cube++) {
            SeedSolver x = new SeedSolver(3, 0);
            check.yes("of a cube that wants nothing, forget(" + cube + ")", x.forget(cube));
            for (int other = 0; other < 6; other++) {
                wantSeed(x, other, 3, other + 2);
            }
            for (int place = 0; place < 64; place++) {
                check.yes("want 1 at each place", x.want(cube, place / 4, place % 4, 1));
            }
            check.yes("forget(" + cube + ")", x.forget(cube));
            for (int other = 0; other < 6; other++) {
                String call = "after it seeds(" + (1 << other) + ")";
                check.same(call, x.seeds(1 << other), other == cube ? 8 : 1);
            }
            check.yes("once more, forget(" + cube + ")", x.forget(cube));
            check.same("after it seeds(" + (1 << cube) + ")", x.seeds(1 << cube), 8);
        }
    }

    /** Has made 511 calls; cube 0 wants the seed 5 and cube 1 the seed 250. */
    private static SeedSolver wornOut() {
        SeedSolver x = new SeedSolver(8, 0);
        wantSeed(x, 0, 8, 5);
        wantSeed(x, 1, 8, 250);
        for (int call = 16; call < 511; call++) {
            check.yes("want(5, 15, 3, " + call % 3 + ")", x.want(5, 15, 3, call % 3));
        }
        return x;
    }

    private static void theLastOf512Calls() {
        check.sentence("What it is", "An object is used for at most 512 calls after it has been made");
        check.same("expand(250, 1, 0)", wornOut().expand(250, 1, 0), 1);
        check.same("seeds(1)", wornOut().seeds(1), 1);
        check.same("leastSeed(2)", wornOut().leastSeed(2), 250);
        check.same("greatestSeed(1)", wornOut().greatestSeed(1), 5);
        check.same("forced(2, 7, 0)", wornOut().forced(2, 7, 0), 1);
        check.same("seedsNeeded(31)", wornOut().seedsNeeded(31), 2);
        check.yes("shifter(3, 255)", wornOut().shifter(3, 255));
        check.no("shifter(4, 0)", wornOut().shifter(4, 0));
        check.yes("want(5, 0, 0, 1)", wornOut().want(5, 0, 0, 1));
        check.no("want(6, 0, 0, 1)", wornOut().want(6, 0, 0, 1));
        check.yes("forget(5)", wornOut().forget(5));
        check.no("forget(6)", wornOut().forget(6));
        SeedSolver x = new SeedSolver(8, -1);
        for (int call = 0; call < 512; call++) {
            check.same("call " + (call + 1) + ", seedsNeeded(63)", x.seedsNeeded(63), 1);
        }
    }
}
