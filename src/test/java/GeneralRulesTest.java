import java.util.ArrayList;
import java.util.List;
import java.util.Set;
import java.util.function.ToIntFunction;

/** The general rules of the document, which hold for every call. */
public final class GeneralRulesTest {
    private GeneralRulesTest() {
    }

    public static void main(String[] args) {
        Checks.section("General rules");
        String order = "In every call the conditions are tried in the order in which they are listed; the first that "
                + "holds decides the answer";
        Checks.sentence(order + " (send)", GeneralRulesTest::orderInSend);
        Checks.sentence(order + " (deliver)", GeneralRulesTest::orderInDeliver);
        Checks.sentence(order + " (checkpoint)", GeneralRulesTest::orderInCheckpoint);
        Checks.sentence(order + " (needed)", GeneralRulesTest::orderInNeeded);
        Checks.sentence(order + " (checkpointNumber)", GeneralRulesTest::orderInCheckpointNumber);
        Checks.sentence(order + " (message)", GeneralRulesTest::orderInMessage);
        Checks.sentence(order + " (all calls, in many states)", GeneralRulesTest::orderInManyStates);
        Checks.sentence("a refused call changes nothing", GeneralRulesTest::refusedCallsChangeNothing);
        Checks.sentence("a refused call changes nothing (nor what comes later)",
                GeneralRulesTest::refusedCallsLeaveNoTrace);
        Checks.sentence("Getters never change anything.", GeneralRulesTest::gettersChangeNothing);
        Checks.sentence("Getters never change anything. (nor what comes later)", GeneralRulesTest::gettersLeaveNoTrace);
        Checks.sentence("\"p is bad\" means p < 0 or p >= n", GeneralRulesTest::badProcesses);
        Checks.sentence("\"slot is bad\" means slot < 0 or slot >= m", GeneralRulesTest::badSlots);
        Checks.sentence("The same meaning of \"bad\" holds for q.", GeneralRulesTest::badReceivers);
        Checks.finish();
    }

    private static void refused(Calls x, String what, ToIntFunction<Calls> call, int want) {
        Checks.keepsAll(x, what, () -> call.applyAsInt(x), want);
    }

    private static void orderInSend() {
        Calls x = new RealCalls(3, 3, 4);
        x.crash(2);
        refused(x, "send(2, 2), bad and down", y -> y.send(2, 2), RecoveryLine.BAD);
        refused(x, "send(2, 3), bad and down", y -> y.send(2, 3), RecoveryLine.BAD);
        refused(x, "send(2, -1), bad and down", y -> y.send(2, -1), RecoveryLine.BAD);
        Edges.fillSlots(x, 0, 1, 4);
        refused(x, "send(2, 2), bad, down and full", y -> y.send(2, 2), RecoveryLine.BAD);
        refused(x, "send(2, 3), bad, down and full", y -> y.send(2, 3), RecoveryLine.BAD);
        refused(x, "send(0, 0), bad and full", y -> y.send(0, 0), RecoveryLine.BAD);
        refused(x, "send(0, 3), bad and full", y -> y.send(0, 3), RecoveryLine.BAD);
        refused(x, "send(3, 0), bad and full", y -> y.send(3, 0), RecoveryLine.BAD);
        refused(x, "send(-1, -1), bad in three ways and full", y -> y.send(-1, -1), RecoveryLine.BAD);
        refused(x, "send(2, 0), down and full", y -> y.send(2, 0), RecoveryLine.DOWN);
        refused(x, "send(0, 2), full, the receiver down", y -> y.send(0, 2), RecoveryLine.FULL);
    }

    private static void orderInDeliver() {
        Calls x = new RealCalls(2, 3, 4);
        Edges.pass(x, 0, 1);
        x.send(0, 1);
        x.send(0, 1);
        x.lose(2);
        x.crash(1);
        refused(x, "deliver(0), received, its receiver down", y -> y.deliver(0), RecoveryLine.NONE);
        refused(x, "deliver(2), empty, the last receiver down", y -> y.deliver(2), RecoveryLine.NONE);
        refused(x, "deliver(1), in transit, its receiver down", y -> y.deliver(1), RecoveryLine.DOWN);
        x.crash(0);
        refused(x, "deliver(3), empty, all down", y -> y.deliver(3), RecoveryLine.NONE);
        refused(x, "deliver(4), all down", y -> y.deliver(4), RecoveryLine.BAD);
    }

    private static void orderInCheckpoint() {
        Calls room = new RealCalls(2, 3, 4);
        Edges.raise(room, 0, 99);
        refused(room, "checkpoint(0), limit", y -> y.checkpoint(0), RecoveryLine.LIMIT);
        room.crash(0);
        refused(room, "checkpoint(0), down and limit", y -> y.checkpoint(0), RecoveryLine.DOWN);
        Calls full = new RealCalls(2, 3, 4);
        Edges.raise(full, 0, 97);
        full.checkpoint(0);
        Checks.due("checkpoint(0)", full.checkpoint(0), 99);
        refused(full, "checkpoint(0), limit and full", y -> y.checkpoint(0), RecoveryLine.LIMIT);
        full.crash(0);
        refused(full, "checkpoint(0), down, limit and full", y -> y.checkpoint(0), RecoveryLine.DOWN);
        full.checkpoint(1);
        full.checkpoint(1);
        refused(full, "checkpoint(1), full", y -> y.checkpoint(1), RecoveryLine.FULL);
        full.crash(1);
        refused(full, "checkpoint(1), down and full", y -> y.checkpoint(1), RecoveryLine.DOWN);
    }

    private static void orderInNeeded() {
        Calls x = new RealCalls(2, 3, 4);
        for (int p : Edges.badOf(2)) {
            for (int number : new int[] {Integer.MIN_VALUE, -1, 0, 1, Integer.MAX_VALUE}) {
                refused(x, "needed(" + p + ", " + number + ")", y -> y.needed(p, number), RecoveryLine.BAD);
            }
        }
    }

    private static void orderInCheckpointNumber() {
        Calls x = new RealCalls(2, 3, 4);
        for (int p : Edges.badOf(2)) {
            for (int k : new int[] {Integer.MIN_VALUE, -1, 0, 1, Integer.MAX_VALUE}) {
                refused(x, "checkpointNumber(" + p + ", " + k + ")", y -> y.checkpointNumber(p, k), RecoveryLine.BAD);
            }
        }
    }

    private static void orderInMessage() {
        Calls x = new RealCalls(2, 3, 4);
        for (int what : Edges.badOf(6)) {
            refused(x, "message(4, " + what + "), both bad", y -> y.message(4, what), RecoveryLine.BAD);
            refused(x, "message(3, " + what + "), empty", y -> y.message(3, what), RecoveryLine.BAD);
        }
        refused(x, "message(4, 0)", y -> y.message(4, 0), RecoveryLine.BAD);
        refused(x, "message(-1, 1)", y -> y.message(-1, 1), RecoveryLine.BAD);
        // That what is 0 comes before that the slot is EMPTY.
        refused(x, "message(3, 0), empty", y -> y.message(3, 0), RecoveryLine.EMPTY);
        refused(x, "message(3, 5), empty", y -> y.message(3, 5), RecoveryLine.NONE);
    }

    private static void orderInManyStates() {
        for (State state : State.all()) {
            Calls model = state.model();
            Calls real = state.real();
            for (Call getter : getters()) {
                Checks.due(state.name() + ": " + getter.name(), getter.on(real), getter.on(model));
            }
            for (Call call : changes()) {
                Checks.due(state.name() + ": " + call.name(), call.on(state.real()), call.on(state.model()));
            }
        }
    }

    private static void refusedCallsChangeNothing() {
        for (State state : State.all()) {
            for (Call call : refusedIn(state)) {
                Calls x = state.real();
                Snapshot before = Snapshot.of(x);
                call.on(x);
                Checks.same(state.name() + ": changed by " + call.name(),
                        before.differences(Snapshot.of(x)), Set.of());
            }
        }
    }

    private static void refusedCallsLeaveNoTrace() {
        for (State state : State.all()) {
            goOnAlike(state, refusedIn(state));
        }
    }

    private static void gettersChangeNothing() {
        for (State state : State.all()) {
            Calls x = state.real();
            Snapshot before = Snapshot.of(x);
            for (Call getter : getters()) {
                getter.on(x);
            }
            Checks.same(state.name() + ": changed by getters", before.differences(Snapshot.of(x)), Set.of());
        }
    }

    private static void gettersLeaveNoTrace() {
        for (State state : State.all()) {
            goOnAlike(state, getters());
        }
    }

    /** After the calls, all goes on as it would have without them. */
    private static void goOnAlike(State state, List<Call> calls) {
        Calls x = state.real();
        Calls untouched = state.real();
        for (Call call : calls) {
            call.on(x);
        }
        for (int round = 0; round < 3; round++) {
            for (Call call : changes()) {
                Checks.due(state.name() + ", later: " + call.name(), call.on(x), call.on(untouched));
            }
            Checks.same(state.name() + ", later: other getters",
                    Snapshot.of(untouched).differences(Snapshot.of(x)), Set.of());
        }
    }

    private static List<Call> refusedIn(State state) {
        List<Call> refused = new ArrayList<>();
        for (Call call : changes()) {
            if (call.on(state.model()) < 0) {
                refused.add(call);
            }
        }
        return refused;
    }

    private static List<Call> changes() {
        List<Call> calls = new ArrayList<>();
        for (int p : new int[] {Integer.MIN_VALUE, -1, 0, 1, 2, 3, 4, 32, Integer.MAX_VALUE}) {
            calls.add(new Call("step(" + p + ", 7)", x -> x.step(p, 7)));
            calls.add(new Call("checkpoint(" + p + ")", x -> x.checkpoint(p)));
            for (int q : new int[] {Integer.MIN_VALUE, -1, 0, 1, 2, 3, 4, 32, Integer.MAX_VALUE}) {
                calls.add(new Call("send(" + p + ", " + q + ")", x -> x.send(p, q)));
            }
        }
        for (int slot : new int[] {Integer.MIN_VALUE, -1, 0, 1, 2, 3, 4, 5, 8, 15, 16, 17, Integer.MAX_VALUE}) {
            calls.add(new Call("lose(" + slot + ")", x -> x.lose(slot)));
            calls.add(new Call("deliver(" + slot + ")", x -> x.deliver(slot)));
        }
        calls.add(new Call("recover()", Calls::recover));
        for (int p : new int[] {Integer.MIN_VALUE, -1, 2, 1, 3, 0, 4, 32, Integer.MAX_VALUE}) {
            calls.add(new Call("send(1, 0)", x -> x.send(1, 0)));
            calls.add(new Call("deliver(" + p + ")", x -> x.deliver(p)));
            calls.add(new Call("crash(" + p + ")", x -> x.crash(p)));
        }
        calls.add(new Call("reclaim()", Calls::reclaim));
        calls.add(new Call("recover()", Calls::recover));
        return calls;
    }

    private static List<Call> getters() {
        List<Call> calls = new ArrayList<>();
        for (int p : Edges.ints()) {
            calls.add(new Call("value(" + p + ")", x -> x.value(p)));
            calls.add(new Call("interval(" + p + ")", x -> x.interval(p)));
            calls.add(new Call("isUp(" + p + ")", x -> x.isUp(p) ? 1 : 0));
            for (int other : Edges.ints()) {
                calls.add(new Call("probe(" + other + ", " + p + ")", x -> x.probe(other, p)));
                calls.add(new Call("needed(" + p + ", " + other + ")", x -> x.needed(p, other)));
                calls.add(new Call("checkpointNumber(" + p + ", " + other + ")", x -> x.checkpointNumber(p, other)));
                calls.add(new Call("savedValue(" + p + ", " + other + ")", x -> x.savedValue(p, other)));
                calls.add(new Call("message(" + p + ", " + other + ")", x -> x.message(p, other)));
            }
        }
        return calls;
    }

    private static void badProcesses() {
        for (int n = 2; n <= 4; n++) {
            Calls x = new RealCalls(n, 3, 4);
            for (int p : Edges.badOf(n)) {
                refused(x, "step(" + p + ", 0)", y -> y.step(p, 0), RecoveryLine.BAD);
                refused(x, "send(" + p + ", 0)", y -> y.send(p, 0), RecoveryLine.BAD);
                refused(x, "checkpoint(" + p + ")", y -> y.checkpoint(p), RecoveryLine.BAD);
                refused(x, "crash(" + p + ")", y -> y.crash(p), RecoveryLine.BAD);
                refused(x, "probe(0, " + p + ")", y -> y.probe(0, p), RecoveryLine.BAD);
                refused(x, "needed(" + p + ", 0)", y -> y.needed(p, 0), RecoveryLine.BAD);
                refused(x, "value(" + p + ")", y -> y.value(p), 0);
                refused(x, "interval(" + p + ")", y -> y.interval(p), RecoveryLine.BAD);
                refused(x, "isUp(" + p + ")", y -> y.isUp(p) ? 1 : 0, 0);
                refused(x, "checkpointNumber(" + p + ", 0)", y -> y.checkpointNumber(p, 0), RecoveryLine.BAD);
                refused(x, "savedValue(" + p + ", 0)", y -> y.savedValue(p, 0), 0);
            }
            for (int p = 0; p < n; p++) {
                Checks.due("step(" + p + ", 0) of " + n, x.step(p, 0), RecoveryLine.OK);
                Checks.due("checkpoint(" + p + ") of " + n, x.checkpoint(p), 1);
                Checks.due("send(" + p + ", ..) of " + n, x.send(p, p == 0 ? 1 : 0), p);
                Checks.due("probe(0, " + p + ") of " + n, x.probe(0, p), RecoveryLine.NOW);
                Checks.due("needed(" + p + ", 1) of " + n, x.needed(p, 1), 1);
                Checks.due("crash(" + p + ") of " + n, x.crash(p), RecoveryLine.OK);
            }
        }
    }

    private static void badSlots() {
        for (int m = 4; m <= 16; m++) {
            Calls x = new RealCalls(2, 3, m);
            Edges.fillSlots(x, 0, 1, m);
            for (int slot : Edges.badOf(m)) {
                refused(x, "deliver(" + slot + ")", y -> y.deliver(slot), RecoveryLine.BAD);
                refused(x, "lose(" + slot + ")", y -> y.lose(slot), RecoveryLine.BAD);
                refused(x, "message(" + slot + ", 0)", y -> y.message(slot, 0), RecoveryLine.BAD);
            }
            for (int slot = 0; slot < m; slot++) {
                Checks.due("message(" + slot + ", 0) of " + m, x.message(slot, 0), RecoveryLine.IN_TRANSIT);
                Checks.due("the end of " + slot + " of " + m, slot % 2 == 0 ? x.deliver(slot) : x.lose(slot),
                        RecoveryLine.OK);
            }
        }
    }

    private static void badReceivers() {
        for (int n = 2; n <= 4; n++) {
            Calls x = new RealCalls(n, 3, 4);
            for (int q : Edges.badOf(n)) {
                refused(x, "send(0, " + q + ")", y -> y.send(0, q), RecoveryLine.BAD);
                refused(x, "send(1, " + q + ")", y -> y.send(1, q), RecoveryLine.BAD);
            }
            for (int q = 1; q < n; q++) {
                Checks.due("send(0, " + q + ") of " + n, x.send(0, q), q - 1);
            }
        }
    }
}
