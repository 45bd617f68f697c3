import java.util.ArrayList;
import java.util.List;

/** Each call that answers true is shown by later calls as the document says, and nothing else is changed by it. */
public final class AcceptedTest {
    private final Check check = new Check();

    public static void main(String[] args) {
        AcceptedTest test = new AcceptedTest();
        for (int bits = 3; bits <= 8; bits++) {
            test.everyShifter(bits);
        }
        test.everyWant();
        for (State state : State.all()) {
            test.everyForget(state);
        }
        test.rightAsksChangeNothing();
        test.check.end();
    }

    private void compare(String where, List<Call> looks, Real real, Model model) {
        for (Call look : looks) {
            check.same(where + ", then " + look, look.on(real), look.on(model));
        }
    }

    private void accepted(String where, Call call, Real real, Model model) {
        check.same(where, call.on(real), 1);
        call.on(model);
    }

    /** Cube c wants a 1 on chain c in two cycles, so that seeds shows each shifter beside expand. */
    private void everyShifter(int bits) {
        List<Call> settings = new ArrayList<>();
        for (int chain = 0; chain < 4; chain++) {
            settings.add(new Call("want", chain, 0, chain, 1));
            settings.add(new Call("want", chain, 9, chain, 1));
        }
        State state = new State(bits + " bits", bits, 5, settings);
        List<Call> looks = shifterLooks(bits);
        for (int chain = 0; chain < 4; chain++) {
            for (int set = 0; set < 1 << bits; set++) {
                Real real = state.real();
                Model model = state.model();
                Call call = new Call("shifter", chain, set);
                String where = state.name() + ", " + call;
                accepted(where, call, real, model);
                compare(where, looks, real, model);
            }
        }
    }

    private static List<Call> shifterLooks(int bits) {
        List<Call> looks = new ArrayList<>();
        for (int chain = 0; chain < 4; chain++) {
            for (int cycle : new int[] {0, 1, 15}) {
                for (int b = 0; b < bits; b++) {
                    looks.add(new Call("expand", 1 << b, cycle, chain));
                }
                looks.add(new Call("expand", (1 << bits) - 1, cycle, chain));
            }
        }
        for (int set : new int[] {0, 1, 2, 4, 8, 15}) {
            looks.add(new Call("seeds", set));
            looks.add(new Call("leastSeed", set));
            looks.add(new Call("greatestSeed", set));
        }
        looks.add(new Call("forced", 1, 4, 1));
        looks.add(new Call("seedsNeeded", 15));
        return looks;
    }

    /** At each place of each cube each value follows each other one; in a turning register every place can be 0 and 1. */
    private void everyWant() {
        List<Call> settings = new ArrayList<>();
        for (int cube = 0; cube < 6; cube++) {
            settings.add(new Call("want", cube, cube, 0, cube & 1));
        }
        for (int cube = 0; cube < 6; cube++) {
            for (int place = 0; place < 64; place++) {
                for (int values = 0; values < 9; values++) {
                    State state = new State("others want", 5, 1, settings);
                    oneWant(state, cube, place, values / 3, values % 3);
                }
            }
        }
    }

    private void oneWant(State state, int cube, int place, int before, int after) {
        Real real = state.real();
        Model model = state.model();
        accepted("forget", new Call("forget", cube), real, model);
        int cycle = place / 4;
        int chain = place % 4;
        Call first = new Call("want", cube, cycle, chain, before);
        Call second = new Call("want", cube, cycle, chain, after);
        accepted("first " + first, first, real, model);
        String where = first + ", " + second;
        accepted(where, second, real, model);
        check.same(where + ", forced there", real.forced(1 << cube, cycle, chain), after);
        check.same(where + ", seeds of the cube", real.seeds(1 << cube), after == 2 ? 32 : 16);
        List<Call> looks = new ArrayList<>();
        for (int each = 0; each < 6; each++) {
            looks.add(new Call("seeds", 1 << each));
            looks.add(new Call("leastSeed", 1 << each));
            looks.add(new Call("greatestSeed", 1 << each));
        }
        looks.add(new Call("seeds", 63));
        looks.add(new Call("seedsNeeded", 63));
        compare(where, looks, real, model);
    }

    private void everyForget(State state) {
        for (int cube = 0; cube < 6; cube++) {
            Real real = state.real();
            Model model = state.model();
            Call call = new Call("forget", cube);
            String where = state.name() + ", " + call;
            accepted(where, call, real, model);
            check.same(where + ", seeds of the cube", real.seeds(1 << cube), 1 << state.bits());
            compare(where, state.looks(), real, model);
            // What was wanted before must not come back with a new want.
            Call anew = new Call("want", cube, 2, 1, 0);
            accepted(where + ", " + anew, anew, real, model);
            compare(where + ", " + anew, state.looks(), real, model);
        }
    }

    private void rightAsksChangeNothing() {
        for (State state : State.all()) {
            Model model = state.model();
            List<Call> looks = state.looks();
            int[] due = looks.stream().mapToInt(look -> look.on(model)).toArray();
            for (Call ask : looks) {
                Real real = state.real();
                ask.on(real);
                for (int i = 0; i < due.length; i++) {
                    check.same(state.name() + ", " + ask + ", then " + looks.get(i), looks.get(i).on(real), due[i]);
                }
            }
        }
    }
}
