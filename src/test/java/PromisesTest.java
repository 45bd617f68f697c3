/** The promises one by one, with answers worked out by hand from the document. */
public final class PromisesTest {
    private static final int BAD = -1;
    private static final int NONE = -2;
    private static final int FREE = 2;
    private static final int LOW = Integer.MIN_VALUE;
    private static final int HIGH = Integer.MAX_VALUE;

    private static final Check check = new Check();

    public static void main(String[] args) {
        newObjectClampsBits();
        newObjectKeepsLowTaps();
        newObjectHasPlainShiftersAndFreeCubes();
        shifterSets();
        shifterRefuses();
        wantSets();
        wantRefuses();
        expandFollowsTheRegister();
        expandRefuses();
        seedsCounts();
        leastAndGreatestSeed();
        forcedValues();
        seedsNeededIsLeast();
        seedsNeededGoesToSix();
        seedsNeededWithoutFit();
        cubeSetsOutOfRange();
        forgetClears();
        forgetRefuses();
        asksChangeNothing();
        exampleOfTheReadme();
        check.end();
    }

    /** Makes a cube want one whole seed: with the first shifters, chain 0 gets bit b in cycle b. */
    private static void wantSeed(SeedSolver x, int cube, int bits, int seed) {
        for (int b = 0; b < bits; b++) {
            check.yes("want a seed's bit", x.want(cube, b, 0, seed >> b & 1));
        }
    }

    private static void newObjectClampsBits() {
        int[] bits = {LOW, -1, 0, 2, 3, 4, 5, 6, 7, 8, 9, 35, HIGH};
        int[] n = {3, 3, 3, 3, 3, 4, 5, 6, 7, 8, 8, 8, 8};
        for (int i = 0; i < bits.length; i++) {
            SeedSolver x = new SeedSolver(bits[i], 1);
            String made = "SeedSolver(" + bits[i] + ", 1).";
            check.same(made + "seeds(0)", x.seeds(0), 1 << n[i]);
            check.same(made + "leastSeed(63)", x.leastSeed(63), 0);
            check.same(made + "greatestSeed(63)", x.greatestSeed(63), (1 << n[i]) - 1);
            // TAPS is bit 0 alone: the register turns, and comes back to bit 0 after N cycles.
            for (int cycle = 0; cycle < 16; cycle++) {
                check.same(made + "expand(1, " + cycle + ", 0)", x.expand(1, cycle, 0), cycle % n[i] == 0 ? 1 : 0);
            }
        }
    }

    private static void newObjectKeepsLowTaps() {
        int[] taps = {9, 25, 9 + 64, -7, LOW + 9, HIGH - 6};
        for (int i = 0; i < taps.length; i++) {
            SeedSolver x = new SeedSolver(4, taps[i]);
            String made = "SeedSolver(4, " + taps[i] + ").";
            int[] due = {1, 0, 0, 0, 1, 1, 1, 1, 0, 1, 0, 1, 1, 0, 0, 1};
            for (int cycle = 0; cycle < 16; cycle++) {
                check.same(made + "expand(1, " + cycle + ", 0)", x.expand(1, cycle, 0), due[cycle]);
            }
        }
        SeedSolver none = new SeedSolver(8, 256);
        check.same("without taps, expand(255, 7, 0)", none.expand(255, 7, 0), 1);
        check.same("without taps, expand(255, 8, 0)", none.expand(255, 8, 0), 0);
        SeedSolver all = new SeedSolver(8, -1);
        check.same("with all taps, expand(128, 8, 0)", all.expand(128, 8, 0), 1);
        check.same("with all taps, expand(255, 8, 0)", all.expand(255, 8, 0), 0);
        check.same("with all taps, expand(255, 9, 0)", all.expand(255, 9, 0), 1);
    }

    private static void newObjectHasPlainShiftersAndFreeCubes() {
        for (int n = 3; n <= 8; n++) {
            SeedSolver x = new SeedSolver(n, 3);
            for (int chain = 0; chain < 4; chain++) {
                for (int b = 0; b < n; b++) {
                    String call = "SeedSolver(" + n + ", 3).expand(" + (1 << b) + ", 0, " + chain + ")";
                    check.same(call, x.expand(1 << b, 0, chain), b == chain % n ? 1 : 0);
                }
            }
            for (int cube = 0; cube < 6; cube++) {
                check.same("a new cube " + cube, x.seeds(1 << cube), 1 << n);
            }
            check.same("all new cubes", x.seeds(63), 1 << n);
            check.same("new: seedsNeeded(63)", x.seedsNeeded(63), 1);
        }
    }

    private static void shifterSets() {
        SeedSolver x = new SeedSolver(5, 0);
        check.yes("shifter(2, 31)", x.shifter(2, 31));
        check.same("parity of three", x.expand(0b10101, 0, 2), 1);
        check.same("parity of four", x.expand(0b11110, 0, 2), 0);
        check.same("another chain stays", x.expand(0b00010, 0, 1), 1);
        check.same("after one cycle", x.expand(0b10101, 1, 2), 0);
        check.yes("shifter(2, 0)", x.shifter(2, 0));
        check.same("the empty set gives 0", x.expand(31, 0, 2), 0);
        check.yes("want(0, 0, 2, 1)", x.want(0, 0, 2, 1));
        check.same("no seed with the empty set", x.seeds(1), 0);
        // A cube is about chains, not seeds: what fits follows the shifter.
        check.yes("shifter(2, 16)", x.shifter(2, 16));
        check.same("seeds after shifter", x.seeds(1), 16);
        check.same("leastSeed after shifter", x.leastSeed(1), 16);
        check.yes("shifter(0, 1)", x.shifter(0, 1));
        check.yes("shifter(3, 31)", x.shifter(3, 31));
        check.same("chain 3", x.expand(7, 0, 3), 1);
    }

    private static void shifterRefuses() {
        for (int n = 3; n <= 8; n++) {
            SeedSolver x = new SeedSolver(n, 0);
            int all = (1 << n) - 1;
            for (int chain : new int[] {-1, 4, LOW, HIGH}) {
                check.no("shifter(" + chain + ", 1)", x.shifter(chain, 1));
            }
            for (int set : new int[] {-1, all + 1, LOW, HIGH}) {
                for (int chain = 0; chain < 4; chain++) {
                    check.no("shifter(" + chain + ", " + set + ")", x.shifter(chain, set));
                }
            }
            for (int chain = 0; chain < 4; chain++) {
                check.same("refused shifters change nothing", x.expand(1 << chain % n, 0, chain), 1);
                check.same("refused shifters change nothing", x.expand(all ^ 1 << chain % n, 0, chain), 0);
            }
            check.yes("shifter(3, all)", x.shifter(3, all));
            check.yes("shifter(0, 0)", x.shifter(0, 0));
        }
    }

    private static void wantSets() {
        SeedSolver x = new SeedSolver(4, 1);
        check.yes("want(0, 0, 0, 1)", x.want(0, 0, 0, 1));
        check.same("wants 1", x.leastSeed(1), 1);
        check.same("wants 1", x.seeds(1), 8);
        check.yes("want(0, 0, 0, 0)", x.want(0, 0, 0, 0));
        check.same("wants 0 instead", x.greatestSeed(1), 14);
        check.same("wants 0 instead", x.seeds(1), 8);
        check.yes("want(0, 0, 0, 1) again", x.want(0, 0, 0, 1));
        check.yes("want(0, 0, 0, FREE)", x.want(0, 0, 0, FREE));
        check.same("wants nothing", x.seeds(1), 16);
        check.yes("FREE where nothing was", x.want(0, 7, 2, FREE));
        check.same("wants nothing still", x.seeds(1), 16);
        // A turning register of 4 bits: cycle 4 shows again what cycle 0 showed.
        check.yes("want(5, 15, 3, 1)", x.want(5, 15, 3, 1));
        check.same("the last cube and place", x.leastSeed(32), 4);
        check.same("the last cube and place", x.seeds(32), 8);
        check.yes("want(5, 11, 3, 0)", x.want(5, 11, 3, 0));
        check.same("against itself", x.seeds(32), 0);
        check.yes("want(5, 11, 3, FREE)", x.want(5, 11, 3, FREE));
        check.same("no longer against itself", x.seeds(32), 8);
        check.same("other cubes stay", x.seeds(31), 16);
    }

    private static void wantRefuses() {
        SeedSolver x = new SeedSolver(4, 1);
        check.yes("want(0, 0, 0, 1)", x.want(0, 0, 0, 1));
        int[][] bad = {{-1, 6}, {-1, 16}, {-1, 4}, {-1, 3}};
        for (int argument = 0; argument < 4; argument++) {
            for (int wrong : new int[] {bad[argument][0], bad[argument][1], LOW, HIGH, -2, 64}) {
                int[] a = {0, 0, 0, 0};
                a[argument] = wrong;
                String call = "want(" + a[0] + ", " + a[1] + ", " + a[2] + ", " + a[3] + ")";
                check.no(call, x.want(a[0], a[1], a[2], a[3]));
            }
        }
        check.same("refused wants change nothing", x.seeds(1), 8);
        check.same("refused wants change nothing", x.leastSeed(1), 1);
        check.same("refused wants change nothing", x.seeds(62), 16);
    }

    private static void expandFollowsTheRegister() {
        // Seed 1011 with taps 0011 (written from bit 3 down): 1011, 0101, 1010, 1101, 1110, 1111, 0111, 0011.
        SeedSolver x = new SeedSolver(4, 3);
        int[] states = {0b1011, 0b0101, 0b1010, 0b1101, 0b1110, 0b1111, 0b0111, 0b0011};
        for (int cycle = 0; cycle < states.length; cycle++) {
            for (int chain = 0; chain < 4; chain++) {
                check.same("expand(11, " + cycle + ", " + chain + ")", x.expand(11, cycle, chain), states[cycle] >> chain & 1);
            }
        }
        for (int chain = 0; chain < 4; chain++) {
            check.same("the zero seed stays zero", x.expand(0, 15, chain), 0);
            check.same("after 15 cycles the seed is back", x.expand(11, 15, chain), 0b1011 >> chain & 1);
        }
        check.yes("shifter(1, 12)", x.shifter(1, 12));
        for (int cycle = 0; cycle < states.length; cycle++) {
            int due = (states[cycle] >> 2 ^ states[cycle] >> 3) & 1;
            check.same("expand(11, " + cycle + ", 1)", x.expand(11, cycle, 1), due);
        }
    }

    private static void expandRefuses() {
        for (int n = 3; n <= 8; n++) {
            SeedSolver x = new SeedSolver(n, 1);
            int greatest = (1 << n) - 1;
            for (int seed : new int[] {-1, greatest + 1, LOW, HIGH}) {
                check.same("expand(" + seed + ", 0, 0)", x.expand(seed, 0, 0), BAD);
            }
            for (int cycle : new int[] {-1, 16, LOW, HIGH}) {
                check.same("expand(0, " + cycle + ", 0)", x.expand(0, cycle, 0), BAD);
            }
            for (int chain : new int[] {-1, 4, LOW, HIGH}) {
                check.same("expand(0, 0, " + chain + ")", x.expand(0, 0, chain), BAD);
            }
            check.same("expand(greatest, 15, 3)", x.expand(greatest, 15, 3), 1);
            check.same("expand(0, 0, 0)", x.expand(0, 0, 0), 0);
        }
    }

    private static void seedsCounts() {
        SeedSolver x = new SeedSolver(6, 0);
        for (int cube = 0; cube < 6; cube++) {
            check.yes("want a bit", x.want(cube, cube, 0, 1));
        }
        for (int set = 0; set < 64; set++) {
            check.same("seeds(" + set + ")", x.seeds(set), 1 << (6 - Integer.bitCount(set)));
        }
        check.yes("want(0, 1, 0, 0)", x.want(0, 1, 0, 0));
        check.same("cubes that cannot go together", x.seeds(3), 0);
        check.same("one of them", x.seeds(1), 16);
        check.yes("want(0, 1, 0, 1)", x.want(0, 1, 0, 1));
        check.same("a value wanted twice", x.seeds(3), 16);
        check.yes("want(2, 6, 0, 1)", x.want(2, 6, 0, 1));
        check.same("a cube that no seed fits", x.seeds(4), 0);
        check.same("a set with it", x.seeds(5), 0);
        check.same("the empty set", x.seeds(0), 64);
    }

    private static void leastAndGreatestSeed() {
        SeedSolver x = new SeedSolver(8, 0);
        check.same("leastSeed(0)", x.leastSeed(0), 0);
        check.same("greatestSeed(0)", x.greatestSeed(0), 255);
        wantSeed(x, 0, 8, 0);
        wantSeed(x, 1, 8, 255);
        wantSeed(x, 2, 8, 128);
        check.same("leastSeed(1)", x.leastSeed(1), 0);
        check.same("greatestSeed(1)", x.greatestSeed(1), 0);
        check.same("leastSeed(2)", x.leastSeed(2), 255);
        check.same("greatestSeed(2)", x.greatestSeed(2), 255);
        check.same("leastSeed(4)", x.leastSeed(4), 128);
        check.same("greatestSeed(4)", x.greatestSeed(4), 128);
        check.same("leastSeed(3)", x.leastSeed(3), NONE);
        check.same("greatestSeed(3)", x.greatestSeed(3), NONE);
        check.yes("want(3, 3, 0, 1)", x.want(3, 3, 0, 1));
        check.yes("want(3, 7, 0, 0)", x.want(3, 7, 0, 0));
        check.same("leastSeed(8)", x.leastSeed(8), 8);
        check.same("greatestSeed(8)", x.greatestSeed(8), 127);
        check.yes("want(4, 0, 0, 1)", x.want(4, 0, 0, 1));
        check.yes("want(4, 6, 0, 0)", x.want(4, 6, 0, 0));
        check.same("leastSeed(24)", x.leastSeed(24), 9);
        check.same("greatestSeed(24)", x.greatestSeed(24), 63);
    }

    private static void forcedValues() {
        SeedSolver x = new SeedSolver(5, 0);
        check.same("a bit is free without cubes", x.forced(0, 4, 0), FREE);
        check.same("0 enters without taps", x.forced(0, 5, 0), 0);
        check.same("0 enters without taps", x.forced(0, 15, 3), 0);
        check.yes("want(0, 2, 0, 1)", x.want(0, 2, 0, 1));
        check.same("what the cube wants", x.forced(1, 2, 0), 1);
        check.same("the same bit elsewhere", x.forced(1, 0, 2), 1);
        check.same("another bit", x.forced(1, 1, 0), FREE);
        check.yes("want(1, 1, 0, 0)", x.want(1, 1, 0, 0));
        check.same("both cubes", x.forced(3, 0, 1), 0);
        // A sum of two wanted bits is forced although no cube names its place.
        check.yes("shifter(3, 6)", x.shifter(3, 6));
        check.same("a sum", x.forced(3, 0, 3), 1);
        check.same("a sum with one bit free", x.forced(1, 0, 3), FREE);
        check.yes("want(2, 2, 0, 0)", x.want(2, 2, 0, 0));
        check.same("no seed fits", x.forced(5, 0, 0), NONE);
        check.same("no seed fits, a place always 0", x.forced(5, 15, 0), NONE);
        wantSeed(x, 3, 5, 31);
        check.same("the greatest seed alone", x.forced(8, 3, 1), 1);
        wantSeed(x, 4, 5, 0);
        check.same("the zero seed alone", x.forced(16, 3, 1), 0);
        for (int wrong : new int[] {-1, 64, LOW, HIGH}) {
            check.same("forced(" + wrong + ", 0, 0)", x.forced(wrong, 0, 0), BAD);
        }
        for (int wrong : new int[] {-1, 16, LOW, HIGH}) {
            check.same("forced(0, " + wrong + ", 0)", x.forced(0, wrong, 0), BAD);
            check.same("forced(5, " + wrong + ", 0)", x.forced(5, wrong, 0), BAD);
        }
        for (int wrong : new int[] {-1, 4, LOW, HIGH}) {
            check.same("forced(0, 0, " + wrong + ")", x.forced(0, 0, wrong), BAD);
            check.same("forced(5, 0, " + wrong + ")", x.forced(5, 0, wrong), BAD);
        }
    }

    private static void seedsNeededIsLeast() {
        // Cubes 0 to 3 fit one seed, and taking it first would cost three: 4 goes only with 0 and 1, 5 only with 2 and 3.
        SeedSolver x = new SeedSolver(5, 0);
        for (int cube = 0; cube < 4; cube++) {
            check.yes("want a 0", x.want(cube, cube + 1, 0, 0));
        }
        int[][] wanted = {{0, FREE, FREE, 1, 1}, {1, 1, 1, FREE, FREE}};
        for (int cycle = 0; cycle < 5; cycle++) {
            check.yes("cube 4", x.want(4, cycle, 0, wanted[0][cycle]));
            check.yes("cube 5", x.want(5, cycle, 0, wanted[1][cycle]));
        }
        check.same("seedsNeeded(0)", x.seedsNeeded(0), 0);
        check.same("seedsNeeded(15)", x.seedsNeeded(15), 1);
        check.same("seedsNeeded(48)", x.seedsNeeded(48), 2);
        check.same("seedsNeeded(63)", x.seedsNeeded(63), 2);
        // Cubes that fit in pairs but not all three at once: x, y, and x + y wanted to be 1.
        SeedSolver y = new SeedSolver(3, 0);
        check.yes("shifter(2, 3)", y.shifter(2, 3));
        for (int cube = 0; cube < 3; cube++) {
            check.yes("want a 1", y.want(cube, 0, cube, 1));
        }
        check.same("seedsNeeded(3)", y.seedsNeeded(3), 1);
        check.same("seedsNeeded(5)", y.seedsNeeded(5), 1);
        check.same("seedsNeeded(6)", y.seedsNeeded(6), 1);
        check.same("seedsNeeded(7)", y.seedsNeeded(7), 2);
    }

    private static void seedsNeededGoesToSix() {
        SeedSolver x = new SeedSolver(3, 0);
        for (int cube = 0; cube < 6; cube++) {
            wantSeed(x, cube, 3, cube + 2);
        }
        for (int set = 0; set < 64; set++) {
            check.same("seedsNeeded(" + set + ")", x.seedsNeeded(set), Integer.bitCount(set));
        }
        wantSeed(x, 5, 3, 2);
        check.same("two cubes with one seed", x.seedsNeeded(63), 5);
        check.yes("forget(5)", x.forget(5));
        check.same("a cube that wants nothing goes along", x.seedsNeeded(63), 5);
        check.same("but alone it needs a seed", x.seedsNeeded(32), 1);
    }

    private static void seedsNeededWithoutFit() {
        SeedSolver x = new SeedSolver(3, 0);
        check.yes("want(2, 3, 0, 1)", x.want(2, 3, 0, 1));
        for (int set = 0; set < 64; set++) {
            int due = (set & 4) != 0 ? NONE : set == 0 ? 0 : 1;
            check.same("seedsNeeded(" + set + ")", x.seedsNeeded(set), due);
        }
        check.yes("want(2, 3, 0, 0)", x.want(2, 3, 0, 0));
        check.same("seedsNeeded(63)", x.seedsNeeded(63), 1);
    }

    private static void cubeSetsOutOfRange() {
        for (int n = 3; n <= 8; n++) {
            SeedSolver x = new SeedSolver(n, 1);
            for (int set : new int[] {-1, 64, 65, 128, LOW, HIGH, NONE}) {
                check.same("seeds(" + set + ")", x.seeds(set), BAD);
                check.same("leastSeed(" + set + ")", x.leastSeed(set), BAD);
                check.same("greatestSeed(" + set + ")", x.greatestSeed(set), BAD);
                check.same("seedsNeeded(" + set + ")", x.seedsNeeded(set), BAD);
            }
        }
    }

    private static void forgetClears() {
        for (int cube = 0; cube < 6; cube++) {
            SeedSolver x = new SeedSolver(4, 9);
            for (int other = 0; other < 6; other++) {
                check.yes("want", x.want(other, 0, 0, 1));
            }
            for (int place = 0; place < 64; place++) {
                check.yes("want", x.want(cube, place / 4, place % 4, 1));
            }
            check.same("before forget", x.seeds(1 << cube), 0);
            check.yes("forget(" + cube + ")", x.forget(cube));
            check.same("after forget", x.seeds(1 << cube), 16);
            check.same("the others stay", x.seeds(63), 8);
            for (int other = 0; other < 6; other++) {
                check.same("cube " + other, x.seeds(1 << other), other == cube ? 16 : 8);
            }
            check.yes("forget again", x.forget(cube));
            check.yes("want anew", x.want(cube, 1, 0, 0));
            check.same("only what is wanted anew", x.seeds(1 << cube), 8);
            check.same("only what is wanted anew", x.greatestSeed(1 << cube), 13);
        }
        SeedSolver y = new SeedSolver(4, 9);
        check.yes("shifter(0, 15)", y.shifter(0, 15));
        check.yes("forget(0)", y.forget(0));
        check.same("forget leaves the shifters", y.expand(8, 0, 0), 1);
    }

    private static void forgetRefuses() {
        SeedSolver x = new SeedSolver(4, 9);
        for (int cube = 0; cube < 6; cube++) {
            check.yes("want", x.want(cube, 0, 0, 1));
        }
        for (int cube : new int[] {-1, 6, 7, 32, LOW, HIGH}) {
            check.no("forget(" + cube + ")", x.forget(cube));
        }
        for (int cube = 0; cube < 6; cube++) {
            check.same("refused, nothing forgotten", x.seeds(1 << cube), 8);
        }
    }

    private static void asksChangeNothing() {
        SeedSolver x = new SeedSolver(6, 33);
        for (int cube = 0; cube < 6; cube++) {
            check.yes("want", x.want(cube, cube, cube % 4, cube & 1));
        }
        int needed = x.seedsNeeded(63);
        int smaller = x.seedsNeeded(21);
        int count = x.seeds(21);
        int least = x.leastSeed(21);
        int greatest = x.greatestSeed(21);
        int forced = x.forced(21, 9, 2);
        int value = x.expand(33, 9, 2);
        check.same("seedsNeeded again", x.seedsNeeded(63), needed);
        check.same("seedsNeeded again", x.seedsNeeded(21), smaller);
        check.same("seeds again", x.seeds(21), count);
        check.same("leastSeed again", x.leastSeed(21), least);
        check.same("greatestSeed again", x.greatestSeed(21), greatest);
        check.same("forced again", x.forced(21, 9, 2), forced);
        check.same("expand again", x.expand(33, 9, 2), value);
    }

    private static void exampleOfTheReadme() {
        SeedSolver solver = new SeedSolver(4, 9);
        check.yes("want(0, 0, 0, 1)", solver.want(0, 0, 0, 1));
        check.yes("want(0, 1, 0, 0)", solver.want(0, 1, 0, 0));
        check.yes("want(0, 5, 0, 1)", solver.want(0, 5, 0, 1));
        check.same("README, seeds(1)", solver.seeds(1), 2);
        check.same("README, leastSeed(1)", solver.leastSeed(1), 1);
        check.same("README, greatestSeed(1)", solver.greatestSeed(1), 5);
        check.same("README, forced(1, 4, 0)", solver.forced(1, 4, 0), 1);
        check.same("README, forced(1, 2, 0)", solver.forced(1, 2, 0), FREE);
        check.same("README, expand(5, 2, 0)", solver.expand(5, 2, 0), 1);
        check.yes("want(1, 0, 0, 0)", solver.want(1, 0, 0, 0));
        check.same("README, leastSeed(3)", solver.leastSeed(3), NONE);
        check.same("README, seedsNeeded(3)", solver.seedsNeeded(3), 2);
        check.same("README, seeds(64)", solver.seeds(64), BAD);
        check.yes("forget(1)", solver.forget(1));
        check.same("README, seedsNeeded(3) after forget", solver.seedsNeeded(3), 1);
        check.yes("shifter(0, 3)", solver.shifter(0, 3));
        check.same("README, expand(3, 0, 0)", solver.expand(3, 0, 0), 0);
    }
}
