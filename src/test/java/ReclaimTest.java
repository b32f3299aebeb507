import java.util.Set;

/** Promise 9: reclaiming space. */
public final class ReclaimTest {
    private static final int NOW = RecoveryLine.NOW;

    private ReclaimTest() {
    }

    public static void main(String[] args) {
        Checks.section("Promise 9");
        Checks.sentence("works in every state, also while processes are down", ReclaimTest::worksInEveryState);
        Checks.sentence("What is NEEDED and what is SETTLED is decided for all checkpoints and messages from the "
                + "state before the call changes anything.", ReclaimTest::decidesBeforeItChanges);
        Checks.sentence("every stored checkpoint that is not NEEDED is removed, be it the newest of its process or "
                + "not", ReclaimTest::unneededCheckpointsGo);
        Checks.sentence("every slot with a SETTLED message becomes EMPTY", ReclaimTest::settledMessagesGo);
        Checks.sentence("Answers 100 * (checkpoints removed) + (slots emptied)", ReclaimTest::countsBoth);
        Checks.sentence("0 if there was nothing to remove or empty", ReclaimTest::nothingToDo);
        Checks.sentence("Interval numbers, values, up and down, and all else stay.", ReclaimTest::allElseStays);
        Checks.sentence("In particular an interval number stays even if the checkpoint with that number is removed",
                ReclaimTest::theIntervalNumberStays);
        Checks.sentence("the remaining checkpoints keep their numbers and saved values, and the remaining messages "
                + "stay in their slots unchanged", ReclaimTest::whatRemainsIsUnchanged);
        Checks.finish();
    }

    private static void worksInEveryState() {
        for (State state : State.all()) {
            Calls x = state.real();
            Calls model = state.model();
            Checks.due(state.name() + ": reclaim()", x.reclaim(), model.reclaim());
            Checks.same(state.name() + ": wrong after reclaim()",
                    Snapshot.of(model).differences(Snapshot.of(x)), Set.of());
            Checks.keepsAll(x, state.name() + ": reclaim() again", x::reclaim, 0);
        }
        Calls x = new RealCalls(2, 4, 8);
        x.checkpoint(0);
        Edges.pass(x, 0, 1);
        x.checkpoint(1);
        x.crash(0);
        // With 0 down for certain, 1 can only fall back behind the receipt.
        Checks.due("reclaim(), 0 down", x.reclaim(), 200);
        Checks.stored(x, 0, 1);
        Checks.stored(x, 1, 0);
        Checks.due("isUp(0)", x.isUp(0), false);
        Checks.due("message(0, 0)", x.message(0, 0), RecoveryLine.RECEIVED);
        Checks.due("recover()", x.recover(), 3);
        Checks.due("value(1)", x.value(1), 2);
    }

    /** The settled messages and the old checkpoints go together in one call, and leave nothing for a second one. */
    private static void decidesBeforeItChanges() {
        Calls x = new RealCalls(3, 8, 8);
        Edges.pass(x, 0, 1);
        x.checkpoint(1);
        Edges.pass(x, 1, 2);
        x.checkpoint(2);
        x.checkpoint(0);
        x.checkpoint(1);
        Checks.due("reclaim()", x.reclaim(), 402);
        Checks.keepsAll(x, "reclaim() again", x::reclaim, 0);
        Calls y = new RealCalls(2, 4, 8);
        y.checkpoint(0);
        Edges.pass(y, 0, 1);
        y.checkpoint(1);
        Edges.pass(y, 0, 1);
        Edges.pass(y, 1, 0);
        y.crash(1);
        y.crash(0);
        Checks.due("reclaim(), all down", y.reclaim(), 200);
        Checks.stored(y, 0, 1);
        Checks.stored(y, 1, 0);
        Checks.keepsAll(y, "reclaim() again, all down", y::reclaim, 0);
        Checks.due("recover()", y.recover(), 3);
    }

    /** Leaves checkpoint 2 of process 1, its newest, behind every line. */
    private static Calls withANewestBehind() {
        Calls x = new RealCalls(2, 4, 8);
        x.checkpoint(1);
        Edges.pass(x, 0, 1);
        x.checkpoint(1);
        Edges.pass(x, 1, 0);
        return x;
    }

    private static void unneededCheckpointsGo() {
        Calls x = withANewestBehind();
        Checks.due("reclaim()", x.reclaim(), 200);
        Checks.stored(x, 1, 1);
        Checks.stored(x, 0, 0);
        // Of those that lie in the middle, only the ones without a line go.
        Calls y = new RealCalls(3, 8, 4);
        y.checkpoint(0);
        Edges.pass(y, 0, 1);
        for (int i = 0; i < 7; i++) {
            y.checkpoint(1);
        }
        Checks.due("reclaim()", y.reclaim(), 700);
        Checks.stored(y, 0, 1);
        Checks.stored(y, 1, 0, 7);
        Checks.stored(y, 2, 0);
        // A full process has room again.
        Checks.due("checkpoint(1)", y.checkpoint(1), 8);
    }

    private static void settledMessagesGo() {
        Calls x = new RealCalls(2, 4, 8);
        Edges.fillSlots(x, 0, 1, 3);
        x.deliver(0);
        x.deliver(2);
        x.checkpoint(1);
        Checks.keepsAll(x, "reclaim() before the sender saves", x::reclaim, 0);
        x.checkpoint(0);
        Checks.due("reclaim() after it has", x.reclaim(), 202);
        Checks.slotIsEmpty(x, 0);
        Checks.slotIs(x, 1, RecoveryLine.IN_TRANSIT, 0, 1, 1, 0, RecoveryLine.NONE);
        Checks.slotIsEmpty(x, 2);
        Checks.due("send(0, 1)", x.send(0, 1), 0);
    }

    private static void countsBoth() {
        Calls most = new RealCalls(4, 8, 16);
        for (int i = 0; i < 16; i++) {
            Edges.pass(most, i % 4, (i + 1) % 4);
        }
        for (int p = 0; p < 4; p++) {
            for (int i = 0; i < 7; i++) {
                most.checkpoint(p);
            }
        }
        Checks.due("reclaim() of the most", most.reclaim(), 2816);
        Calls checkpoints = new RealCalls(2, 3, 4);
        checkpoints.checkpoint(1);
        Checks.due("reclaim() of one checkpoint", checkpoints.reclaim(), 100);
        Calls both = new RealCalls(2, 3, 4);
        Edges.pass(both, 0, 1);
        both.checkpoint(0);
        both.checkpoint(1);
        Checks.due("reclaim() of two checkpoints and one slot", both.reclaim(), 201);
    }

    private static void nothingToDo() {
        for (int n = 2; n <= 4; n++) {
            Calls x = new RealCalls(n, 3, 4);
            Checks.keepsAll(x, "reclaim() at the start", x::reclaim, 0);
            x.send(0, 1);
            Edges.pass(x, 0, 1);
            Checks.keepsAll(x, "reclaim() with messages that are not settled", x::reclaim, 0);
            for (int p = 0; p < n; p++) {
                x.crash(p);
            }
            Checks.keepsAll(x, "reclaim() with all down", x::reclaim, 0);
        }
    }

    private static void allElseStays() {
        Calls x = new RealCalls(3, 4, 8);
        x.step(0, 1);
        x.checkpoint(0);
        x.step(0, 1);
        x.checkpoint(0);
        x.step(0, 1);
        x.crash(2);
        Checks.changes(x, "reclaim()", x::reclaim, 200, "checkpointNumber(0, 0)", "checkpointNumber(0, 1)",
                "checkpointNumber(0, 2)", "savedValue(0, 0)", "savedValue(0, 1)");
        Checks.due("isUp(2)", x.isUp(2), false);
        Checks.due("interval(0)", x.interval(0), 2);
        Checks.due("value(0)", x.value(0), 31 * 993 + 1);
    }

    private static void theIntervalNumberStays() {
        Calls x = withANewestBehind();
        int value = x.value(1);
        Checks.changes(x, "reclaim()", x::reclaim, 200, "checkpointNumber(1, 0)", "checkpointNumber(1, 1)",
                "checkpointNumber(1, 2)", "savedValue(1, 0)", "savedValue(1, 2)");
        Checks.due("interval(1)", x.interval(1), 2);
        Checks.due("value(1)", x.value(1), value);
        Checks.lineIs(x, 0, NOW, NOW);
        Checks.due("send(1, 0)", x.send(1, 0), 2);
        Checks.due("message(2, 4)", x.message(2, 4), 2);
        Checks.due("checkpoint(1)", x.checkpoint(1), 3);
        // At the limit too: what is gone gives no number back.
        Calls y = new RealCalls(2, 4, 8);
        Edges.raise(y, 1, 98);
        Edges.pass(y, 0, 1);
        Checks.due("checkpoint(1)", y.checkpoint(1), 99);
        Edges.pass(y, 1, 0);
        Checks.due("reclaim()", y.reclaim(), 100);
        Checks.stored(y, 1, 98);
        Checks.due("interval(1)", y.interval(1), 99);
        Checks.due("checkpoint(1)", y.checkpoint(1), RecoveryLine.LIMIT);
    }

    private static void whatRemainsIsUnchanged() {
        Calls x = new RealCalls(3, 8, 8);
        Edges.pass(x, 2, 1);
        x.send(2, 0);
        x.checkpoint(0);
        Edges.pass(x, 0, 1);
        x.checkpoint(1);
        x.step(1, 5);
        x.checkpoint(1);
        x.step(1, 6);
        x.checkpoint(1);
        int newest = x.savedValue(1, 3);
        // Needed of process 1: checkpoint 0, for the crash of 0 or 2, and its newest.
        Checks.due("reclaim()", x.reclaim(), 300);
        Checks.stored(x, 1, 0, 3);
        Checks.due("savedValue(1, 0)", x.savedValue(1, 0), 2);
        Checks.due("savedValue(1, 3)", x.savedValue(1, 3), newest);
        Checks.slotIs(x, 0, RecoveryLine.RECEIVED, 2, 1, 3, 0, 0);
        Checks.slotIs(x, 1, RecoveryLine.IN_TRANSIT, 2, 0, 3, 0, RecoveryLine.NONE);
        Checks.slotIs(x, 2, RecoveryLine.RECEIVED, 0, 1, 1, 1, 0);
    }
}
