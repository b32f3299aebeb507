import java.util.ArrayList;
import java.util.HashSet;
import java.util.List;
import java.util.Set;

/** Every run of a few calls on two processes, against the reference model. */
public final class ShortRunsTest {
    private static final int LONGEST = 7;

    private static final List<Call> CALLS = calls();

    private ShortRunsTest() {
    }

    public static void main(String[] args) {
        Checks.section("Not promised");
        Checks.sentence("The order in which a single call makes its changes is free, as long as the state after the "
                + "call is the one promised.", ShortRunsTest::allRuns);
        Checks.finish();
    }

    private static void allRuns() {
        // From equal states all goes on alike, so only one run to each is gone on with.
        Set<List<Integer>> seen = new HashSet<>();
        seen.add(look(newReal()));
        List<List<Call>> runs = List.of(List.of());
        for (int length = 1; length <= LONGEST && !Checks.anyWrong(); length++) {
            runs = longerByOne(runs, seen);
        }
    }

    private static List<List<Call>> longerByOne(List<List<Call>> runs, Set<List<Integer>> seen) {
        List<List<Call>> longer = new ArrayList<>();
        for (List<Call> run : runs) {
            for (Call call : CALLS) {
                List<Call> next = new ArrayList<>(run);
                next.add(call);
                if (seen.add(tried(next))) {
                    longer.add(next);
                }
            }
        }
        return longer;
    }

    private static List<Call> calls() {
        List<Call> calls = new ArrayList<>();
        for (int i = 0; i < 2; i++) {
            int p = i;
            calls.add(new Call("send(" + p + ", " + (1 - p) + ")", x -> x.send(p, 1 - p)));
            calls.add(new Call("checkpoint(" + p + ")", x -> x.checkpoint(p)));
            calls.add(new Call("crash(" + p + ")", x -> x.crash(p)));
        }
        for (int i = 0; i < 4; i++) {
            int slot = i;
            calls.add(new Call("deliver(" + slot + ")", x -> x.deliver(slot)));
            calls.add(new Call("lose(" + slot + ")", x -> x.lose(slot)));
        }
        calls.add(new Call("recover()", Calls::recover));
        calls.add(new Call("reclaim()", Calls::reclaim));
        return calls;
    }

    private static Calls newReal() {
        return new RealCalls(2, 3, 4);
    }

    /** The state after the run, whose last call and state are checked. */
    private static List<Integer> tried(List<Call> run) {
        Calls real = newReal();
        Calls model = new ReferenceModel(2, 3, 4);
        int got = 0;
        int want = 0;
        for (Call call : run) {
            got = call.on(real);
            want = call.on(model);
        }
        List<Integer> state = look(real);
        Checks.due("the last answer of " + names(run), got, want);
        Checks.same("the getters after " + names(run), state, look(model));
        return state;
    }

    private static String names(List<Call> run) {
        StringBuilder names = new StringBuilder();
        for (Call call : run) {
            names.append(call.name()).append(' ');
        }
        return names.toString();
    }

    private static List<Integer> look(Calls x) {
        List<Integer> answers = new ArrayList<>();
        for (int p = 0; p < 2; p++) {
            answers.add(x.value(p));
            answers.add(x.interval(p));
            answers.add(x.isUp(p) ? 1 : 0);
            for (int k = 0; k < 3; k++) {
                int number = x.checkpointNumber(p, k);
                answers.add(number);
                answers.add(x.savedValue(p, number));
                answers.add(x.needed(p, number));
            }
            for (int mask = 0; mask < 4; mask++) {
                answers.add(x.probe(mask, p));
            }
        }
        for (int slot = 0; slot < 4; slot++) {
            for (int what = 0; what <= 5; what++) {
                answers.add(x.message(slot, what));
            }
        }
        return answers;
    }
}
