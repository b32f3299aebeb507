import java.util.Set;

/** Promise 8: recovery. */
public final class RecoverTest {
    private RecoverTest() {
    }

    public static void main(String[] args) {
        Checks.section("Promise 8");
        Checks.sentence("No process is down: answers 0, nothing changes.", RecoverTest::nothingIsDown);
        Checks.sentence("Otherwise let x = line(D) as it is before the call changes anything.",
                RecoverTest::theLineIsTheOneBefore);
        Checks.sentence("For every slot that is not EMPTY:", RecoverTest::emptySlotsStay);
        Checks.sentence("if the sending of its message is undone by x, the slot becomes EMPTY (whether it was "
                + "IN_TRANSIT or RECEIVED)", RecoverTest::anUndoneSendingEmptiesTheSlot);
        Checks.sentence("else, if it is RECEIVED and its receipt is undone by x, it becomes IN_TRANSIT again: sender, "
                + "receiver, payload and send interval stay, the receive interval is forgotten",
                RecoverTest::anUndoneReceiptIsInTransitAgain);
        Checks.sentence("else it stays as it is.", RecoverTest::otherMessagesStay);
        Checks.sentence("For every process p whose component is a checkpoint (not \"now\"), with number i: all "
                + "checkpoints of p with numbers greater than i are removed, checkpoint i and older ones stay",
                RecoverTest::laterCheckpointsGo);
        Checks.sentence("the interval number of p becomes i, and its value becomes the saved value of i",
                RecoverTest::intervalAndValueFallBack);
        Checks.sentence("This holds for processes that were up as well as for those that were down.",
                RecoverTest::thoseThatWereUpAsWell);
        Checks.sentence("A process whose component is \"now\" keeps everything.", RecoverTest::nowKeepsEverything);
        Checks.sentence("Every process is up.", RecoverTest::everyProcessIsUp);
        Checks.sentence("In this second case it answers the sum of 1 << p over all processes p whose component was a "
                + "checkpoint.", RecoverTest::theAnswer);
        Checks.sentence("Every process that was down is among them; a process that was up is among them exactly if "
                + "its component was a checkpoint.", RecoverTest::whoIsAmongThem);
        inEveryState();
        Checks.finish();
    }

    private static void nothingIsDown() {
        for (State state : State.all()) {
            Calls x = state.real();
            x.recover();
            Checks.keepsAll(x, state.name() + ": recover() again", x::recover, 0);
        }
        Calls x = new RealCalls(3, 4, 8);
        Checks.keepsAll(x, "recover() at the start", x::recover, 0);
        x.checkpoint(0);
        Edges.pass(x, 0, 1);
        x.send(1, 2);
        x.step(2, 5);
        Checks.keepsAll(x, "recover() with all up", x::recover, 0);
    }

    /** Each message undone takes its receiver along; the chain runs against the order of slots and processes. */
    private static void theLineIsTheOneBefore() {
        Calls x = new RealCalls(4, 3, 4);
        Edges.fillSlots(x, 3, 2, 3);
        for (int p = 0; p < 4; p++) {
            x.checkpoint(p);
        }
        x.send(3, 2);
        x.deliver(3);
        x.lose(2);
        Edges.pass(x, 2, 1);
        x.lose(1);
        Edges.pass(x, 1, 0);
        x.crash(3);
        Checks.due("recover()", x.recover(), 15);
        for (int slot = 1; slot < 4; slot++) {
            Checks.slotIsEmpty(x, slot);
        }
        Checks.slotIs(x, 0, RecoveryLine.IN_TRANSIT, 3, 2, 4, 0, RecoveryLine.NONE);
        for (int p = 0; p < 4; p++) {
            Checks.due("value(" + p + ")", x.value(p), p + 1);
            Checks.due("interval(" + p + ")", x.interval(p), 1);
        }
    }

    private static void emptySlotsStay() {
        Calls x = new RealCalls(2, 3, 4);
        Edges.pass(x, 0, 1);
        x.send(0, 1);
        x.lose(1);
        x.checkpoint(0);
        x.checkpoint(1);
        Checks.due("reclaim()", x.reclaim(), 201);
        x.crash(0);
        x.crash(1);
        Checks.due("recover()", x.recover(), 3);
        for (int slot = 0; slot < 4; slot++) {
            Checks.slotIsEmpty(x, slot);
        }
    }

    private static void anUndoneSendingEmptiesTheSlot() {
        Calls x = new RealCalls(3, 4, 4);
        x.checkpoint(0);
        x.send(0, 1);
        Edges.pass(x, 0, 2);
        x.checkpoint(2);
        x.crash(0);
        Checks.due("recover()", x.recover(), 5);
        Checks.slotIsEmpty(x, 0);
        Checks.slotIsEmpty(x, 1);
        // Undone at both ends, it does not come to be in transit again.
        Calls y = new RealCalls(2, 4, 4);
        y.checkpoint(0);
        y.checkpoint(1);
        Edges.pass(y, 0, 1);
        y.crash(0);
        y.crash(1);
        Checks.due("recover()", y.recover(), 3);
        Checks.slotIsEmpty(y, 0);
        // In the interval of the checkpoint itself it is undone, in the one before it is not.
        Calls z = new RealCalls(2, 4, 4);
        z.send(0, 1);
        z.checkpoint(0);
        z.send(0, 1);
        z.crash(0);
        z.recover();
        Checks.slotIs(z, 0, RecoveryLine.IN_TRANSIT, 0, 1, 1, 0, RecoveryLine.NONE);
        Checks.slotIsEmpty(z, 1);
    }

    private static void anUndoneReceiptIsInTransitAgain() {
        Calls x = new RealCalls(3, 4, 8);
        x.checkpoint(0);
        x.send(0, 1);
        x.step(0, 4);
        x.checkpoint(1);
        x.checkpoint(1);
        x.deliver(0);
        x.crash(1);
        Checks.changes(x, "recover()", x::recover, 2, "value(1)", "isUp(1)", "message(0, 0)", "message(0, 5)");
        Checks.slotIs(x, 0, RecoveryLine.IN_TRANSIT, 0, 1, 1, 1, RecoveryLine.NONE);
        Checks.due("value(1)", x.value(1), 2);
        // It can be delivered again, in another interval, or be lost.
        x.checkpoint(1);
        Checks.due("deliver(0) again", x.deliver(0), RecoveryLine.OK);
        Checks.due("value(1)", x.value(1), 63);
        Checks.slotIs(x, 0, RecoveryLine.RECEIVED, 0, 1, 1, 1, 3);
        x.crash(1);
        x.recover();
        Checks.due("lose(0)", x.lose(0), RecoveryLine.OK);
    }

    private static void otherMessagesStay() {
        Calls x = new RealCalls(3, 4, 8);
        Edges.pass(x, 0, 1);
        x.send(0, 1);
        x.send(1, 0);
        Edges.pass(x, 2, 1);
        x.checkpoint(0);
        x.checkpoint(1);
        x.step(0, 1);
        x.crash(0);
        Checks.changes(x, "recover()", x::recover, 1, "value(0)", "isUp(0)");
        Checks.slotIs(x, 0, RecoveryLine.RECEIVED, 0, 1, 1, 0, 0);
        Checks.slotIs(x, 1, RecoveryLine.IN_TRANSIT, 0, 1, 1, 0, RecoveryLine.NONE);
        Checks.slotIs(x, 2, RecoveryLine.IN_TRANSIT, 1, 0, 63, 0, RecoveryLine.NONE);
        Checks.slotIs(x, 3, RecoveryLine.RECEIVED, 2, 1, 3, 0, 0);
        Checks.slotIsEmpty(x, 4);
    }

    private static void laterCheckpointsGo() {
        for (int kept = 0; kept < 8; kept++) {
            Calls x = new RealCalls(2, 8, 4);
            x.checkpoint(0);
            for (int number = 1; number <= kept; number++) {
                x.step(1, number);
                x.checkpoint(1);
            }
            Edges.pass(x, 0, 1);
            for (int number = kept + 1; number < 8; number++) {
                x.checkpoint(1);
            }
            int[] saved = new int[kept + 1];
            for (int number = 0; number <= kept; number++) {
                saved[number] = x.savedValue(1, number);
            }
            x.crash(0);
            Checks.due("recover()", x.recover(), 3);
            for (int number = 0; number < 9; number++) {
                Checks.due("checkpointNumber(1, " + number + "), back at " + kept, x.checkpointNumber(1, number),
                        number <= kept ? number : RecoveryLine.NONE);
                Checks.due("savedValue(1, " + number + "), back at " + kept, x.savedValue(1, number),
                        number <= kept ? saved[number] : 0);
            }
        }
    }

    private static void intervalAndValueFallBack() {
        for (int value : Edges.ints()) {
            Calls x = new RealCalls(2, 4, 4);
            Edges.setValue(x, 1, value);
            x.checkpoint(1);
            x.step(1, 3);
            x.crash(1);
            Checks.due("recover()", x.recover(), 2);
            Checks.due("value(1)", x.value(1), value);
            Checks.due("interval(1)", x.interval(1), 1);
        }
        // The interval number falls below that of a checkpoint that was reclaimed.
        Calls x = new RealCalls(2, 4, 8);
        x.checkpoint(1);
        Edges.pass(x, 0, 1);
        x.checkpoint(1);
        Edges.pass(x, 1, 0);
        Checks.due("reclaim() takes the newest", x.reclaim(), 200);
        Checks.due("interval(1)", x.interval(1), 2);
        x.crash(1);
        Checks.due("recover()", x.recover(), 3);
        Checks.due("interval(1)", x.interval(1), 1);
        Checks.due("value(1)", x.value(1), 2);
        Checks.due("checkpoint(1)", x.checkpoint(1), 2);
    }

    private static void thoseThatWereUpAsWell() {
        Calls x = new RealCalls(3, 4, 8);
        x.checkpoint(2);
        Edges.pass(x, 2, 1);
        x.checkpoint(1);
        Edges.pass(x, 1, 0);
        x.checkpoint(0);
        x.crash(2);
        Checks.due("recover()", x.recover(), 7);
        Checks.stored(x, 0, 0);
        Checks.stored(x, 1, 0);
        Checks.stored(x, 2, 0, 1);
        for (int p = 0; p < 3; p++) {
            Checks.due("value(" + p + ")", x.value(p), p + 1);
            Checks.due("interval(" + p + ")", x.interval(p), p == 2 ? 1 : 0);
        }
        Checks.slotIsEmpty(x, 0);
        Checks.slotIsEmpty(x, 1);
    }

    private static void nowKeepsEverything() {
        Calls x = new RealCalls(4, 4, 8);
        x.step(3, 1);
        Edges.pass(x, 3, 0);
        x.checkpoint(1);
        x.step(1, 1);
        Edges.pass(x, 3, 1);
        x.crash(0);
        x.crash(2);
        int value = x.value(1);
        Checks.changes(x, "recover()", x::recover, 5, "value(0)", "isUp(0)", "value(2)", "isUp(2)",
                "message(0, 0)", "message(0, 5)");
        Checks.due("value(1)", x.value(1), value);
        Checks.due("value(3)", x.value(3), 125);
        Checks.stored(x, 1, 0, 1);
    }

    private static void everyProcessIsUp() {
        for (int n = 2; n <= 4; n++) {
            for (int down = 1; down < 1 << n; down++) {
                Calls x = new RealCalls(n, 3, 4);
                crashAll(x, down);
                x.recover();
                for (int p = 0; p < n; p++) {
                    Checks.due("isUp(" + p + "), down were " + down, x.isUp(p), true);
                    Checks.due("step(" + p + ", 0), down were " + down, x.step(p, 0), RecoveryLine.OK);
                }
            }
        }
    }

    private static void crashAll(Calls x, int down) {
        for (int p = 0; p < 4; p++) {
            if ((down >> p & 1) != 0) {
                x.crash(p);
            }
        }
    }

    private static void theAnswer() {
        for (int n = 2; n <= 4; n++) {
            for (int down = 0; down < 1 << n; down++) {
                Calls x = new RealCalls(n, 3, 4);
                crashAll(x, down);
                Checks.due("recover() of " + down, x.recover(), down);
            }
        }
    }

    private static void whoIsAmongThem() {
        for (int down = 1; down < 16; down++) {
            Calls x = new RealCalls(4, 3, 4);
            x.checkpoint(3);
            x.checkpoint(0);
            // If 3 falls back, so does 0, though to its newest checkpoint and with nothing removed.
            Edges.pass(x, 3, 0);
            crashAll(x, down);
            Checks.due("recover(), down were " + down, x.recover(), (down & 8) != 0 ? down | 1 : down);
            Checks.stored(x, 0, 0, 1);
        }
        // Even if the value it falls back to is the one it has.
        Calls x = new RealCalls(2, 3, 4);
        Edges.setValue(x, 0, -60);
        Edges.pass(x, 0, 1);
        Checks.due("value(1)", x.value(1), 2);
        x.crash(0);
        Checks.due("recover()", x.recover(), 3);
    }

    private static void inEveryState() {
        for (State state : State.all()) {
            Calls x = state.real();
            Calls model = state.model();
            Checks.due(state.name() + ": recover()", x.recover(), model.recover());
            Checks.same(state.name() + ": wrong after recover()",
                    Snapshot.of(model).differences(Snapshot.of(x)), Set.of());
        }
    }
}
