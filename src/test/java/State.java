import java.util.ArrayList;
import java.util.List;

/** A way to bring a new object, real or model, into a certain state. */
record State(String name, int bits, int taps, List<Call> settings) {
    private static final int[] SETS = {0, 1, 2, 4, 8, 16, 32, 3, 5, 33, 48, 62, 63};

    Real real() {
        Real real = new Real(bits, taps);
        settings.forEach(call -> call.on(real));
        return real;
    }

    Model model() {
        Model model = new Model(bits, taps);
        settings.forEach(call -> call.on(model));
        return model;
    }

    /** Asks that together show the shifters and what the cubes want. */
    List<Call> looks() {
        List<Call> looks = new ArrayList<>();
        for (int b = 0; b < bits; b++) {
            for (int chain = 0; chain < 4; chain++) {
                looks.add(new Call("expand", 1 << b, 0, chain));
                looks.add(new Call("expand", 1 << b, 15, chain));
            }
        }
        for (int set : SETS) {
            looks.add(new Call("seeds", set));
            looks.add(new Call("leastSeed", set));
            looks.add(new Call("greatestSeed", set));
            looks.add(new Call("forced", set, 0, 0));
            looks.add(new Call("forced", set, 15, 3));
            looks.add(new Call("seedsNeeded", set));
        }
        return looks;
    }

    static List<State> all() {
        List<State> states = new ArrayList<>();
        for (int bits = 3; bits <= 8; bits++) {
            states.add(new State("new, " + bits + " bits", bits, 1, List.of()));
        }
        states.add(new State("single wants", 5, 0b10010, singleWants()));
        states.add(new State("a whole seed wanted", 4, 9, wholeSeed()));
        states.add(new State("separate wants", 8, 1, separateWants()));
        states.add(new State("cubes without fit", 3, 0, withoutFit()));
        return states;
    }

    private static List<Call> singleWants() {
        List<Call> settings = new ArrayList<>();
        int[] shifters = {31, 16, 3, 20};
        for (int chain = 0; chain < 4; chain++) {
            settings.add(new Call("shifter", chain, shifters[chain]));
        }
        for (int cube = 0; cube < 6; cube++) {
            settings.add(new Call("want", cube, cube * 3, cube % 4, cube & 1));
        }
        return settings;
    }

    /** Cubes 0 and 5 want at each place what seed 6 gives, so another value at any place leaves no seed. */
    private static List<Call> wholeSeed() {
        List<Call> settings = new ArrayList<>();
        Model model = new Model(4, 9);
        for (int place = 0; place < 64; place++) {
            int value = model.expand(6, place / 4, place % 4);
            settings.add(new Call("want", 0, place / 4, place % 4, value));
            settings.add(new Call("want", 5, place / 4, place % 4, value));
        }
        return settings;
    }

    /** In a turning register these places show all eight bits, one each, so a want lost at any of them lets in a seed. */
    private static List<Call> separateWants() {
        List<Call> settings = new ArrayList<>();
        int[][] places = {{0, 0}, {1, 0}, {15, 3}, {0, 3}, {1, 3}, {2, 3}, {14, 0}, {15, 0}};
        for (int[] place : places) {
            for (int cube : new int[] {0, 1, 5}) {
                settings.add(new Call("want", cube, place[0], place[1], 1));
            }
        }
        return settings;
    }

    /** Without taps cycle 3 and later show zeros alone; each cube wants a 1 at one place that is near an edge. */
    private static List<Call> withoutFit() {
        List<Call> settings = new ArrayList<>();
        int[][] places = {{15, 3}, {15, 0}, {3, 0}, {4, 3}, {14, 3}, {8, 1}};
        for (int cube = 0; cube < 6; cube++) {
            settings.add(new Call("want", cube, places[cube][0], places[cube][1], 1));
        }
        return settings;
    }
}
