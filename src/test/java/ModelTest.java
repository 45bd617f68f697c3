import java.util.Set;
import java.util.TreeSet;

/** Mixed runs of up to 512 calls, right and wrong ones, compared with the model; the numbers come from a fixed sequence. */
public final class ModelTest {
    private static final int RUNS = 480;
    private static final int[] FAR = {-1, Integer.MIN_VALUE, Integer.MAX_VALUE, -2, 1 << 20, 1 << 31 | 1};

    private final Check check = new Check();
    private final Set<String> seen = new TreeSet<>();
    private long sequence = 20261115L;

    public static void main(String[] args) {
        ModelTest test = new ModelTest();
        for (int run = 0; run < RUNS; run++) {
            test.mixedRun(run);
        }
        test.everyKindOfAnswerWasSeen();
        test.everyExpansion();
        test.check.end();
    }

    private int below(int bound) {
        sequence = sequence * 6364136223846793005L + 1442695040888963407L;
        return (int) ((sequence >>> 33) % bound);
    }

    /** A number of 0 .. most, or now and then one outside, mostly just outside. */
    private int about(int most) {
        int kind = below(60);
        if (kind == 0) {
            return FAR[below(FAR.length)];
        }
        if (kind == 1) {
            return below(2) == 0 ? -1 : most + 1;
        }
        return below(most + 1);
    }

    /** Two runs of three go to the very last call that the document speaks of. */
    private void mixedRun(int run) {
        int bits = run % 12 == 0 ? FAR[below(FAR.length)] : 1 + run % 11;
        int taps = run % 3 == 0 ? (int) (sequence >>> 20) : below(512);
        int calls = run % 3 == 1 ? 1 + below(Real.MOST_CALLS) : Real.MOST_CALLS;
        Real real = new Real(bits, taps);
        Model model = new Model(bits, taps);
        int[] hidden = hiddenSeeds(model);
        String where = "run " + run + ", SeedSolver(" + bits + ", " + taps + "), call ";
        for (int made = 1; made <= calls; made++) {
            Call call = run % 2 == 0 ? anyCall(model) : fittingCall(model, hidden);
            int due = call.on(model);
            check.same(where + made + ": " + call, call.on(real), due);
            note(call, due);
        }
    }

    private int[] hiddenSeeds(Model model) {
        int[] seeds = new int[6];
        for (int cube = 0; cube < 6; cube++) {
            seeds[cube] = below(model.seedCount());
        }
        return seeds;
    }

    /** Mostly wants what one seed gives, and seldom a shifter: wants drawn blindly soon leave no seed at all. */
    private Call fittingCall(Model model, int[] hidden) {
        Call call = anyCall(model);
        int[] a = call.arguments();
        if (call.method().equals("want") && a[0] >= 0 && a[0] < 6 && below(50) != 0) {
            int value = model.expand(hidden[a[0]], a[1], a[2]);
            return new Call("want", a[0], a[1], a[2], below(3) == 0 ? 2 : value);
        }
        if (call.method().equals("shifter") && below(4) != 0) {
            return new Call("seedsNeeded", 63);
        }
        return call;
    }

    private Call anyCall(Model model) {
        int kind = below(20);
        int set = about(63);
        int cube = about(5);
        int cycle = about(15);
        int chain = about(3);
        int state = about(model.seedCount() - 1);
        if (kind < 6) {
            return new Call("want", cube, cycle, chain, about(2));
        } else if (kind < 7) {
            return below(3) == 0 ? new Call("shifter", chain, state) : new Call("forget", cube);
        } else if (kind < 9) {
            return new Call("expand", state, cycle, chain);
        } else if (kind < 11) {
            return new Call("seeds", set);
        } else if (kind < 13) {
            return new Call("leastSeed", set);
        } else if (kind < 15) {
            return new Call("greatestSeed", set);
        } else if (kind < 18) {
            return new Call("forced", set, cycle, chain);
        }
        return new Call("seedsNeeded", set);
    }

    /** Counts and seeds are too many to be noted each: those above 6 are one kind. */
    private void note(Call call, int answer) {
        seen.add(call.method() + " " + Math.min(answer, 7));
    }

    /** Runs that never came to some kind of answer would prove nothing about it. */
    private void everyKindOfAnswerWasSeen() {
        kinds("shifter", 0, 1);
        kinds("want", 0, 1);
        kinds("forget", 0, 1);
        kinds("expand", -1, 0, 1);
        kinds("seeds", -1, 0, 1, 2, 4, 7);
        kinds("leastSeed", -2, -1, 0, 1, 2, 3, 4, 5, 6, 7);
        kinds("greatestSeed", -2, -1, 0, 1, 2, 3, 4, 5, 6, 7);
        kinds("forced", -2, -1, 0, 1, 2);
        kinds("seedsNeeded", -2, -1, 0, 1, 2, 3, 4, 5, 6);
    }

    private void kinds(String method, int... answers) {
        for (int answer : answers) {
            check.yes("the runs saw " + method + " answer " + answer, seen.contains(method + " " + answer));
        }
    }

    private void everyExpansion() {
        for (int bits = 3; bits <= 8; bits++) {
            int taps = below(1 << bits);
            Model model = new Model(bits, taps);
            for (int seed = 0; seed < 1 << bits; seed++) {
                // A new object for each seed keeps each one below its 512 calls.
                Real real = new Real(bits, taps);
                for (int place = 0; place < 64; place++) {
                    Call call = new Call("expand", seed, place / 4, place % 4);
                    check.same("SeedSolver(" + bits + ", " + taps + ")." + call, call.on(real), call.on(model));
                }
            }
        }
    }
}
