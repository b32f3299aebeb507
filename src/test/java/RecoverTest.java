/** Promise 8: recovery. */
public final class RecoverTest {
    private RecoverTest() {
    }

    public static void main(String[] args) {
        nothingIsDown();
        oneFallsBackAlone();
        anUndoneSendingTakesItsReceiverAlong();
        anUndoneReceiptIsInTransitAgain();
        messagesInTransit();
        bothEndsUndone();
        laterCheckpointsGo();
        dominoOverThree();
        onlyTheDownAreForced();
        anIntervalWithoutItsCheckpoint();
        twiceInARow();
        Checks.finish();
    }

    private static void nothingIsDown() {
        Calls x = new RealCalls(3, 4, 8);
        Checks.keepsAll(x, "recover() at the start", x::recover, 0);
        x.checkpoint(0);
        x.send(0, 1);
        x.deliver(0);
        Checks.keepsAll(x, "recover() with all up", x::recover, 0);
    }

    private static void oneFallsBackAlone() {
        Calls x = new RealCalls(3, 4, 8);
        x.step(1, 7);
        x.checkpoint(1);
        x.step(1, 8);
        x.step(0, 1);
        x.crash(1);
        Checks.changes(x, "recover()", x::recover, 2, "value(1)", "isUp(1)");
        Checks.due("value(1)", x.value(1), 69);
        Checks.due("interval(1)", x.interval(1), 1);
        Checks.due("value(0)", x.value(0), 32);
    }

    private static void anUndoneSendingTakesItsReceiverAlong() {
        Calls x = new RealCalls(3, 4, 8);
        x.checkpoint(0);
        x.send(0, 1);
        x.deliver(0);
        x.checkpoint(1);
        x.checkpoint(2);
        x.crash(0);
        Checks.due("recover()", x.recover(), 3);
        Checks.due("message(0, 0)", x.message(0, 0), RecoveryLine.EMPTY);
        Checks.due("interval(1)", x.interval(1), 0);
        Checks.due("value(1)", x.value(1), 2);
        Checks.due("checkpointNumber(1, 1)", x.checkpointNumber(1, 1), RecoveryLine.NONE);
        Checks.due("interval(0)", x.interval(0), 1);
        Checks.due("interval(2)", x.interval(2), 1);
        Checks.due("checkpointNumber(2, 1)", x.checkpointNumber(2, 1), 1);
        Checks.due("checkpoint(1)", x.checkpoint(1), 1);
    }

    private static void anUndoneReceiptIsInTransitAgain() {
        Calls x = new RealCalls(3, 4, 8);
        x.send(0, 1);
        x.step(0, 4);
        x.checkpoint(1);
        x.deliver(0);
        x.crash(1);
        Checks.changes(x, "recover()", x::recover, 2, "value(1)", "isUp(1)", "message(0, 0)", "message(0, 5)");
        Checks.due("message(0, 0)", x.message(0, 0), RecoveryLine.IN_TRANSIT);
        Checks.due("message(0, 5)", x.message(0, 5), RecoveryLine.NONE);
        Checks.due("value(1)", x.value(1), 2);
        x.checkpoint(1);
        Checks.due("deliver(0) again", x.deliver(0), RecoveryLine.OK);
        Checks.due("value(1)", x.value(1), 63);
        Checks.due("message(0, 5)", x.message(0, 5), 2);
    }

    private static void messagesInTransit() {
        Calls x = new RealCalls(3, 4, 8);
        x.send(0, 1);
        x.checkpoint(0);
        x.send(0, 1);
        x.send(1, 0);
        x.crash(0);
        Checks.due("recover()", x.recover(), 1);
        Checks.due("sent before the checkpoint", x.message(0, 0), RecoveryLine.IN_TRANSIT);
        Checks.due("sent after the checkpoint", x.message(1, 0), RecoveryLine.EMPTY);
        Checks.due("sent to the crashed one", x.message(2, 0), RecoveryLine.IN_TRANSIT);
    }

    private static void bothEndsUndone() {
        Calls x = new RealCalls(2, 4, 8);
        x.checkpoint(0);
        x.checkpoint(1);
        x.send(0, 1);
        x.deliver(0);
        x.crash(0);
        x.crash(1);
        Checks.due("recover()", x.recover(), 3);
        Checks.due("message(0, 0)", x.message(0, 0), RecoveryLine.EMPTY);
        Checks.due("interval(0)", x.interval(0), 1);
        Checks.due("interval(1)", x.interval(1), 1);
    }

    private static void laterCheckpointsGo() {
        Calls x = new RealCalls(2, 8, 8);
        x.checkpoint(0);
        x.step(1, 1);
        x.checkpoint(1);
        x.step(1, 1);
        x.checkpoint(1);
        x.send(0, 1);
        x.deliver(0);
        x.checkpoint(1);
        x.checkpoint(1);
        x.crash(0);
        Checks.due("recover()", x.recover(), 3);
        Checks.due("interval(1)", x.interval(1), 2);
        Checks.due("value(1)", x.value(1), 31 * 63 + 1);
        for (int k = 0; k < 3; k++) {
            Checks.due("checkpointNumber(1, " + k + ")", x.checkpointNumber(1, k), k);
        }
        Checks.due("checkpointNumber(1, 3)", x.checkpointNumber(1, 3), RecoveryLine.NONE);
        Checks.due("savedValue(1, 1)", x.savedValue(1, 1), 63);
        Checks.due("savedValue(1, 3)", x.savedValue(1, 3), 0);
        x.step(1, 5);
        int value = x.value(1);
        Checks.due("checkpoint(1) uses the number again", x.checkpoint(1), 3);
        Checks.due("savedValue(1, 3)", x.savedValue(1, 3), value);
    }

    private static void dominoOverThree() {
        Calls x = new RealCalls(3, 4, 8);
        x.checkpoint(2);
        x.send(2, 1);
        x.deliver(0);
        x.checkpoint(1);
        x.send(1, 0);
        x.deliver(1);
        x.checkpoint(0);
        x.crash(2);
        Checks.due("recover()", x.recover(), 7);
        Checks.due("interval(0)", x.interval(0), 0);
        Checks.due("interval(1)", x.interval(1), 0);
        Checks.due("interval(2)", x.interval(2), 1);
        Checks.due("message(0, 0)", x.message(0, 0), RecoveryLine.EMPTY);
        Checks.due("message(1, 0)", x.message(1, 0), RecoveryLine.EMPTY);
    }

    private static void onlyTheDownAreForced() {
        Calls x = new RealCalls(4, 4, 8);
        x.step(3, 1);
        x.send(3, 0);
        x.deliver(0);
        x.checkpoint(1);
        x.step(1, 1);
        x.crash(0);
        x.crash(2);
        Checks.due("recover()", x.recover(), 5);
        Checks.due("value(1)", x.value(1), 63);
        Checks.due("value(3)", x.value(3), 125);
        for (int p = 0; p < 4; p++) {
            Checks.due("isUp(" + p + ")", x.isUp(p), true);
        }
        Checks.due("message(0, 0)", x.message(0, 0), RecoveryLine.IN_TRANSIT);
    }

    private static void anIntervalWithoutItsCheckpoint() {
        Calls x = new RealCalls(2, 4, 8);
        x.checkpoint(1);
        x.send(0, 1);
        x.deliver(0);
        x.checkpoint(1);
        x.send(1, 0);
        x.deliver(1);
        Checks.due("reclaim() takes the newest", x.reclaim(), 200);
        Checks.due("interval(1)", x.interval(1), 2);
        x.crash(1);
        Checks.due("recover()", x.recover(), 3);
        Checks.due("interval(1)", x.interval(1), 1);
        Checks.due("checkpoint(1)", x.checkpoint(1), 2);
    }

    private static void twiceInARow() {
        Calls x = new RealCalls(2, 4, 8);
        x.crash(0);
        Checks.due("recover()", x.recover(), 1);
        Checks.keepsAll(x, "recover() again", x::recover, 0);
    }
}
