import java.util.ArrayList;
import java.util.List;

/**
 * A refused call changes nothing that a later call shows: in several states each wrong call is made on a new object,
 * and all it shows afterwards has to be what the model shows, which was never told of that call.
 */
public final class RefusedTest {
    private static final int LOW = Integer.MIN_VALUE;
    private static final int HIGH = Integer.MAX_VALUE;

    private final Check check = new Check();

    public static void main(String[] args) {
        RefusedTest test = new RefusedTest();
        for (State state : State.all()) {
            Model untold = state.model();
            int[] due = state.looks().stream().mapToInt(look -> look.on(untold)).toArray();
            for (Call wrong : wrongCalls(1 << state.bits())) {
                test.oneWrongCall(state, wrong, due);
            }
        }
        test.check.end();
    }

    private void oneWrongCall(State state, Call wrong, int[] due) {
        Real real = state.real();
        String where = state.name() + ", " + wrong;
        check.same(where, wrong.on(real), wrong.refusal());
        List<Call> looks = state.looks();
        for (int i = 0; i < due.length; i++) {
            check.same(where + ", then " + looks.get(i), looks.get(i).on(real), due[i]);
        }
    }

    private static List<Call> wrongCalls(int seedCount) {
        List<Call> calls = new ArrayList<>();
        addWrong(calls, "shifter", 3, seedCount - 1);
        addWrong(calls, "want", 5, 15, 3, 2);
        addWrong(calls, "forget", 5);
        addWrong(calls, "expand", seedCount - 1, 15, 3);
        addWrong(calls, "seeds", 63);
        addWrong(calls, "leastSeed", 63);
        addWrong(calls, "greatestSeed", 63);
        addWrong(calls, "forced", 63, 15, 3);
        addWrong(calls, "seedsNeeded", 63);
        return calls;
    }

    /** Calls with one argument outside 0 .. its most, the others 0, 1, or the most that is right. */
    private static void addWrong(List<Call> calls, String method, int... most) {
        for (int argument = 0; argument < most.length; argument++) {
            for (int wrong : new int[] {-1, most[argument] + 1, most[argument] + 256, LOW, HIGH}) {
                for (int others = 0; others < (most.length == 1 ? 1 : 3); others++) {
                    int[] a = most.clone();
                    for (int i = 0; i < a.length && others < 2; i++) {
                        a[i] = others;
                    }
                    a[argument] = wrong;
                    calls.add(new Call(method, a));
                }
            }
        }
    }
}
