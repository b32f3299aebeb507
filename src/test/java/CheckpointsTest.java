/** Promises 6, 15 and 16: saving a checkpoint, and looking at the stored ones. */
public final class CheckpointsTest {
    private static final int[] BAD_OF_THREE = {Integer.MIN_VALUE, -1, 3, Integer.MAX_VALUE};
    private static final int[] ODD_NUMBERS = {Integer.MIN_VALUE, -4, -1, 3, 99, 100, 1000, Integer.MAX_VALUE};

    private CheckpointsTest() {
    }

    public static void main(String[] args) {
        promise6Saves();
        promise6Refuses();
        promise6FullAndRoomAgain();
        promise6Limit();
        promise6LimitBeforeFull();
        promise15Numbers();
        promise15NumbersWithGaps();
        promise16SavedValues();
        Checks.finish();
    }

    private static void promise6Saves() {
        Calls x = new RealCalls(3, 3, 4);
        x.send(0, 1);
        x.step(0, 9);
        Checks.changes(x, "checkpoint(0)", () -> x.checkpoint(0), 1,
                "interval(0)", "checkpointNumber(0, 1)", "savedValue(0, 1)");
        Checks.due("savedValue(0, 1)", x.savedValue(0, 1), 40);
        Checks.due("value(0)", x.value(0), 40);
        x.step(0, 0);
        Checks.changes(x, "checkpoint(0)", () -> x.checkpoint(0), 2,
                "interval(0)", "checkpointNumber(0, 2)", "savedValue(0, 2)");
        Checks.due("savedValue(0, 1) stays", x.savedValue(0, 1), 40);
        Checks.due("savedValue(0, 2)", x.savedValue(0, 2), 1240);
    }

    private static void promise6Refuses() {
        Calls x = new RealCalls(3, 3, 4);
        for (int p : BAD_OF_THREE) {
            Checks.keepsAll(x, "checkpoint(" + p + ")", () -> x.checkpoint(p), RecoveryLine.BAD);
        }
        x.checkpoint(1);
        x.checkpoint(1);
        Checks.keepsAll(x, "checkpoint(1) while full", () -> x.checkpoint(1), RecoveryLine.FULL);
        x.crash(1);
        Checks.keepsAll(x, "checkpoint(1) while full and down", () -> x.checkpoint(1), RecoveryLine.DOWN);
    }

    private static void promise6FullAndRoomAgain() {
        Calls x = new RealCalls(3, 8, 4);
        for (int number = 1; number < 8; number++) {
            Checks.due("checkpoint(2)", x.checkpoint(2), number);
        }
        Checks.due("checkpoint(2) while full", x.checkpoint(2), RecoveryLine.FULL);
        Checks.due("checkpoint(1) beside a full process", x.checkpoint(1), 1);
        Checks.due("reclaim()", x.reclaim(), 800);
        Checks.due("checkpoint(2) with room again", x.checkpoint(2), 8);
    }

    private static void raise(Calls x, int p, int number) {
        for (int next = 1; next <= number; next++) {
            x.reclaim();
            Checks.due("checkpoint(" + p + ")", x.checkpoint(p), next);
        }
        x.reclaim();
    }

    private static void promise6Limit() {
        Calls x = new RealCalls(2, 3, 4);
        raise(x, 0, 99);
        Checks.due("savedValue(0, 99)", x.savedValue(0, 99), 1);
        Checks.keepsAll(x, "checkpoint(0) at 99", () -> x.checkpoint(0), RecoveryLine.LIMIT);
        Checks.due("checkpoint(1) beside", x.checkpoint(1), 1);
        x.send(0, 1);
        x.deliver(0);
        Checks.due("message(0, 4)", x.message(0, 4), 99);
        Checks.due("probe(0, 0)", x.probe(0, 0), RecoveryLine.NOW);
        Checks.due("probe(1, 0)", x.probe(1, 0), 99);
        Checks.due("probe(1, 1)", x.probe(1, 1), 1);
        x.send(1, 0);
        x.deliver(1);
        Checks.due("message(1, 5)", x.message(1, 5), 99);
        Checks.due("probe(2, 0)", x.probe(2, 0), 99);
        x.crash(0);
        Checks.keepsAll(x, "checkpoint(0) at 99 and down", () -> x.checkpoint(0), RecoveryLine.DOWN);
        Checks.due("recover()", x.recover(), 3);
        Checks.due("interval(0)", x.interval(0), 99);
        Checks.due("checkpoint(0) still at 99", x.checkpoint(0), RecoveryLine.LIMIT);
    }

    private static void promise6LimitBeforeFull() {
        Calls x = new RealCalls(2, 3, 4);
        raise(x, 1, 97);
        Checks.due("checkpoint(1)", x.checkpoint(1), 98);
        Checks.due("checkpoint(1)", x.checkpoint(1), 99);
        Checks.due("three are stored", x.checkpointNumber(1, 2), 99);
        Checks.keepsAll(x, "checkpoint(1) at 99 and full", () -> x.checkpoint(1), RecoveryLine.LIMIT);
        Calls y = new RealCalls(2, 3, 4);
        raise(y, 1, 96);
        y.checkpoint(1);
        y.checkpoint(1);
        Checks.keepsAll(y, "checkpoint(1) at 98 and full", () -> y.checkpoint(1), RecoveryLine.FULL);
    }

    private static void promise15Numbers() {
        Calls x = new RealCalls(3, 8, 4);
        x.checkpoint(1);
        x.checkpoint(1);
        for (int k = 0; k < 3; k++) {
            int place = k;
            Checks.keepsAll(x, "checkpointNumber(1, " + k + ")", () -> x.checkpointNumber(1, place), k);
        }
        for (int k : ODD_NUMBERS) {
            Checks.due("checkpointNumber(1, " + k + ")", x.checkpointNumber(1, k), RecoveryLine.NONE);
        }
        for (int p : BAD_OF_THREE) {
            Checks.due("checkpointNumber(" + p + ", 0)", x.checkpointNumber(p, 0), RecoveryLine.BAD);
            Checks.due("checkpointNumber(" + p + ", -1)", x.checkpointNumber(p, -1), RecoveryLine.BAD);
        }
        x.crash(1);
        Checks.due("checkpointNumber(1, 2) while down", x.checkpointNumber(1, 2), 2);
        Checks.due("checkpointNumber(1, 3) while down", x.checkpointNumber(1, 3), RecoveryLine.NONE);
    }

    private static void promise15NumbersWithGaps() {
        Calls x = new RealCalls(3, 8, 4);
        x.checkpoint(0);
        x.checkpoint(0);
        // The message ties checkpoint 2 of process 0 to checkpoint 0 of process 1.
        x.send(0, 1);
        x.deliver(0);
        x.checkpoint(1);
        x.checkpoint(1);
        x.checkpoint(1);
        Checks.due("reclaim()", x.reclaim(), 400);
        Checks.due("checkpointNumber(0, 0)", x.checkpointNumber(0, 0), 2);
        Checks.due("checkpointNumber(0, 1)", x.checkpointNumber(0, 1), RecoveryLine.NONE);
        Checks.due("checkpointNumber(1, 0)", x.checkpointNumber(1, 0), 0);
        Checks.due("checkpointNumber(1, 1)", x.checkpointNumber(1, 1), 3);
        Checks.due("checkpointNumber(1, 2)", x.checkpointNumber(1, 2), RecoveryLine.NONE);
    }

    private static void promise16SavedValues() {
        Calls x = new RealCalls(3, 8, 4);
        x.step(1, -62);
        x.checkpoint(1);
        x.step(1, -5);
        x.checkpoint(1);
        x.step(1, 1);
        Checks.keepsAll(x, "savedValue(1, 0)", () -> x.savedValue(1, 0), 2);
        Checks.keepsAll(x, "savedValue(1, 1)", () -> x.savedValue(1, 1), 0);
        Checks.keepsAll(x, "savedValue(1, 2)", () -> x.savedValue(1, 2), -5);
        for (int number : ODD_NUMBERS) {
            Checks.due("savedValue(1, " + number + ")", x.savedValue(1, number), 0);
        }
        for (int p : BAD_OF_THREE) {
            Checks.due("savedValue(" + p + ", 0)", x.savedValue(p, 0), 0);
        }
        x.crash(1);
        Checks.due("savedValue(1, 2) while down", x.savedValue(1, 2), -5);
        x.reclaim();
        Checks.due("savedValue(1, 0) once reclaimed", x.savedValue(1, 0), 0);
        Checks.due("savedValue(1, 2) stays", x.savedValue(1, 2), -5);
    }
}
