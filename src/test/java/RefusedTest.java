import java.util.ArrayList;
import java.util.List;
import java.util.function.Predicate;

/**
 * A refused call changes nothing that a later call shows: in several states each wrong call is made on a new object,
 * and all it shows afterwards has to be what the model shows, which was never told of that call.
 */
public final class RefusedTest {
    private static final int LOW = Integer.MIN_VALUE;
    private static final int HIGH = Integer.MAX_VALUE;
    private static final int[] SETS = {0, 1, 2, 4, 8, 16, 32, 3, 5, 33, 48, 62, 63};

    /** A wrong call, true if it was refused. */
    private record Wrong(String call, Predicate<SeedSolver> refused) { }

    /** A call that sets something: shifter with two arguments, want with four. */
    private record Setting(int... arguments) { }

    private record State(String name, int bits, int taps, List<Setting> settings) { }

    private final Check check = new Check();

    public static void main(String[] args) {
        RefusedTest test = new RefusedTest();
        for (State state : states()) {
            int[] due = shownByModel(state);
            for (Wrong wrong : wrongCalls(1 << state.bits())) {
                test.oneWrongCall(state, wrong, due);
            }
        }
        test.check.end();
    }

    private void oneWrongCall(State state, Wrong wrong, int[] due) {
        SeedSolver x = prepared(state);
        String where = state.name() + ", " + wrong.call();
        check.yes(where + " is refused", wrong.refused().test(x));
        int[] got = shown(state, x);
        for (int i = 0; i < due.length; i++) {
            check.same(where + ", later answer " + i, got[i], due[i]);
        }
    }

    private static List<State> states() {
        List<State> states = new ArrayList<>();
        for (int bits = 3; bits <= 8; bits++) {
            states.add(new State("new, " + bits + " bits", bits, 1, List.of()));
        }
        states.add(new State("single wants", 5, 0b10010, singleWants()));
        states.add(new State("a whole seed wanted", 4, 9, wholeSeed()));
        states.add(new State("separate wants", 8, 1, separateWants()));
        states.add(new State("cubes without fit", 3, 0, withoutFit()));
        return states;
    }

    private static List<Setting> singleWants() {
        List<Setting> settings = new ArrayList<>();
        int[] shifters = {31, 16, 3, 20};
        for (int chain = 0; chain < 4; chain++) {
            settings.add(new Setting(chain, shifters[chain]));
        }
        for (int cube = 0; cube < 6; cube++) {
            settings.add(new Setting(cube, cube * 3, cube % 4, cube & 1));
        }
        return settings;
    }

    /** Cubes 0 and 5 want at each place what seed 6 gives, so another value at any place leaves no seed. */
    private static List<Setting> wholeSeed() {
        List<Setting> settings = new ArrayList<>();
        Model model = new Model(4, 9);
        for (int place = 0; place < 64; place++) {
            int value = model.expand(6, place / 4, place % 4);
            settings.add(new Setting(0, place / 4, place % 4, value));
            settings.add(new Setting(5, place / 4, place % 4, value));
        }
        return settings;
    }

    /** In a turning register these places show all eight bits, one each, so a want lost at any of them lets in a seed. */
    private static List<Setting> separateWants() {
        List<Setting> settings = new ArrayList<>();
        int[][] places = {{0, 0}, {1, 0}, {15, 3}, {0, 3}, {1, 3}, {2, 3}, {14, 0}, {15, 0}};
        for (int[] place : places) {
            for (int cube : new int[] {0, 1, 5}) {
                settings.add(new Setting(cube, place[0], place[1], 1));
            }
        }
        return settings;
    }

    /** Without taps cycle 3 and later show zeros alone; each cube wants a 1 at one place that is near an edge. */
    private static List<Setting> withoutFit() {
        List<Setting> settings = new ArrayList<>();
        int[][] places = {{15, 3}, {15, 0}, {3, 0}, {4, 3}, {14, 3}, {8, 1}};
        for (int cube = 0; cube < 6; cube++) {
            settings.add(new Setting(cube, places[cube][0], places[cube][1], 1));
        }
        return settings;
    }

    private static SeedSolver prepared(State state) {
        SeedSolver x = new SeedSolver(state.bits(), state.taps());
        for (Setting setting : state.settings()) {
            int[] a = setting.arguments();
            if (a.length == 2) {
                x.shifter(a[0], a[1]);
            } else {
                x.want(a[0], a[1], a[2], a[3]);
            }
        }
        return x;
    }

    private static int[] shownByModel(State state) {
        Model m = new Model(state.bits(), state.taps());
        for (Setting setting : state.settings()) {
            int[] a = setting.arguments();
            if (a.length == 2) {
                m.shifter(a[0], a[1]);
            } else {
                m.want(a[0], a[1], a[2], a[3]);
            }
        }
        List<Integer> answers = new ArrayList<>();
        for (int b = 0; b < state.bits(); b++) {
            for (int chain = 0; chain < 4; chain++) {
                answers.add(m.expand(1 << b, 0, chain));
                answers.add(m.expand(1 << b, 15, chain));
            }
        }
        for (int set : SETS) {
            answers.add(m.seeds(set));
            answers.add(m.leastSeed(set));
            answers.add(m.greatestSeed(set));
            answers.add(m.forced(set, 0, 0));
            answers.add(m.forced(set, 15, 3));
            answers.add(m.seedsNeeded(set));
        }
        return numbers(answers);
    }

    private static int[] shown(State state, SeedSolver x) {
        List<Integer> answers = new ArrayList<>();
        for (int b = 0; b < state.bits(); b++) {
            for (int chain = 0; chain < 4; chain++) {
                answers.add(x.expand(1 << b, 0, chain));
                answers.add(x.expand(1 << b, 15, chain));
            }
        }
        for (int set : SETS) {
            answers.add(x.seeds(set));
            answers.add(x.leastSeed(set));
            answers.add(x.greatestSeed(set));
            answers.add(x.forced(set, 0, 0));
            answers.add(x.forced(set, 15, 3));
            answers.add(x.seedsNeeded(set));
        }
        return numbers(answers);
    }

    private static int[] numbers(List<Integer> answers) {
        return answers.stream().mapToInt(Integer::intValue).toArray();
    }

    private static List<Wrong> wrongCalls(int seedCount) {
        List<Wrong> calls = new ArrayList<>();
        for (int[] a : wrongArguments(new int[] {3, seedCount - 1})) {
            calls.add(new Wrong("shifter" + list(a), x -> !x.shifter(a[0], a[1])));
        }
        for (int[] a : wrongArguments(new int[] {5, 15, 3, 2})) {
            calls.add(new Wrong("want" + list(a), x -> !x.want(a[0], a[1], a[2], a[3])));
        }
        for (int[] a : wrongArguments(new int[] {5})) {
            calls.add(new Wrong("forget" + list(a), x -> !x.forget(a[0])));
        }
        for (int[] a : wrongArguments(new int[] {seedCount - 1, 15, 3})) {
            calls.add(new Wrong("expand" + list(a), x -> x.expand(a[0], a[1], a[2]) == SeedSolver.BAD));
        }
        for (int[] a : wrongArguments(new int[] {63})) {
            calls.add(new Wrong("seeds" + list(a), x -> x.seeds(a[0]) == SeedSolver.BAD));
            calls.add(new Wrong("leastSeed" + list(a), x -> x.leastSeed(a[0]) == SeedSolver.BAD));
            calls.add(new Wrong("greatestSeed" + list(a), x -> x.greatestSeed(a[0]) == SeedSolver.BAD));
            calls.add(new Wrong("seedsNeeded" + list(a), x -> x.seedsNeeded(a[0]) == SeedSolver.BAD));
        }
        for (int[] a : wrongArguments(new int[] {63, 15, 3})) {
            calls.add(new Wrong("forced" + list(a), x -> x.forced(a[0], a[1], a[2]) == SeedSolver.BAD));
        }
        return calls;
    }

    private static String list(int[] arguments) {
        return java.util.Arrays.toString(arguments).replace('[', '(').replace(']', ')');
    }

    /** Lists of arguments with one of them outside 0 .. its most, the others 0, 1, or the most that is right. */
    private static List<int[]> wrongArguments(int[] most) {
        List<int[]> all = new ArrayList<>();
        for (int argument = 0; argument < most.length; argument++) {
            for (int wrong : new int[] {-1, most[argument] + 1, 256, LOW, HIGH}) {
                for (int others = 0; others < (most.length == 1 ? 1 : 3); others++) {
                    int[] a = most.clone();
                    for (int i = 0; i < a.length && others < 2; i++) {
                        a[i] = others;
                    }
                    a[argument] = wrong;
                    all.add(a);
                }
            }
        }
        return all;
    }
}
