/** Promises 9, 10 and 11: reclaiming space, what if more crashed, and NEEDED. */
public final class LinesTest {
    private static final int[] BAD_OF_THREE = {Integer.MIN_VALUE, -1, 3, Integer.MAX_VALUE};

    private LinesTest() {
    }

    public static void main(String[] args) {
        promise9NothingToDo();
        promise9OldCheckpoints();
        promise9SettledMessages();
        promise9TheNewestMayGo();
        promise9WhileDown();
        promise9AllDown();
        promise9DecidesBeforeItChanges();
        promise10Masks();
        promise10Lines();
        promise10LongDomino();
        promise10LongDominoRoundFour();
        promise10WhileDown();
        promise10Refuses();
        promise11Needed();
        promise11WhileDown();
        promise11Refuses();
        Checks.finish();
    }

    private static void promise9NothingToDo() {
        Calls x = new RealCalls(3, 4, 8);
        Checks.keepsAll(x, "reclaim() at the start", x::reclaim, 0);
        x.send(0, 1);
        x.send(0, 1);
        x.deliver(1);
        Checks.keepsAll(x, "reclaim() with messages that are not settled", x::reclaim, 0);
    }

    private static void promise9OldCheckpoints() {
        Calls x = new RealCalls(3, 4, 8);
        x.step(0, 1);
        x.checkpoint(0);
        x.step(0, 1);
        x.checkpoint(0);
        x.step(0, 1);
        Checks.changes(x, "reclaim()", x::reclaim, 200, "checkpointNumber(0, 0)", "checkpointNumber(0, 1)",
                "checkpointNumber(0, 2)", "savedValue(0, 0)", "savedValue(0, 1)");
        Checks.due("checkpointNumber(0, 0)", x.checkpointNumber(0, 0), 2);
        Checks.due("savedValue(0, 2)", x.savedValue(0, 2), 31 * 32 + 1);
        Checks.keepsAll(x, "reclaim() again", x::reclaim, 0);
    }

    private static void promise9SettledMessages() {
        Calls x = new RealCalls(2, 4, 8);
        x.send(0, 1);
        x.send(0, 1);
        x.send(0, 1);
        x.deliver(0);
        x.deliver(2);
        x.checkpoint(1);
        Checks.due("reclaim() before the sender's checkpoint", x.reclaim(), 0);
        x.checkpoint(0);
        Checks.due("reclaim() after it", x.reclaim(), 202);
        Checks.due("message(0, 0)", x.message(0, 0), RecoveryLine.EMPTY);
        Checks.due("message(1, 0), in transit", x.message(1, 0), RecoveryLine.IN_TRANSIT);
        Checks.due("message(1, 3)", x.message(1, 3), 1);
        Checks.due("message(2, 0)", x.message(2, 0), RecoveryLine.EMPTY);
        Checks.due("send(0, 1)", x.send(0, 1), 0);
    }

    /** Leaves checkpoint 2 of process 1, its newest, behind every line. */
    private static Calls withANewestBehind() {
        Calls x = new RealCalls(2, 4, 8);
        x.checkpoint(1);
        x.send(0, 1);
        x.deliver(0);
        x.checkpoint(1);
        x.send(1, 0);
        x.deliver(1);
        return x;
    }

    private static void promise9TheNewestMayGo() {
        Calls x = withANewestBehind();
        int value = x.value(1);
        Checks.changes(x, "reclaim()", x::reclaim, 200, "checkpointNumber(1, 0)", "checkpointNumber(1, 1)",
                "checkpointNumber(1, 2)", "savedValue(1, 0)", "savedValue(1, 2)");
        Checks.due("checkpointNumber(1, 0)", x.checkpointNumber(1, 0), 1);
        Checks.due("interval(1)", x.interval(1), 2);
        Checks.due("value(1)", x.value(1), value);
        Checks.due("probe(0, 1)", x.probe(0, 1), RecoveryLine.NOW);
        Checks.due("checkpoint(1)", x.checkpoint(1), 3);
    }

    private static void promise9WhileDown() {
        Calls x = new RealCalls(2, 4, 8);
        x.checkpoint(0);
        x.send(0, 1);
        x.deliver(0);
        x.checkpoint(1);
        x.crash(0);
        // With 0 down for certain, 1 can only fall back behind the receipt.
        Checks.due("reclaim()", x.reclaim(), 200);
        Checks.due("checkpointNumber(0, 0)", x.checkpointNumber(0, 0), 1);
        Checks.due("checkpointNumber(1, 0)", x.checkpointNumber(1, 0), 0);
        Checks.due("checkpointNumber(1, 1)", x.checkpointNumber(1, 1), RecoveryLine.NONE);
        Checks.due("isUp(0)", x.isUp(0), false);
        Checks.due("message(0, 0)", x.message(0, 0), RecoveryLine.RECEIVED);
        Checks.due("recover()", x.recover(), 3);
        Checks.due("value(1)", x.value(1), 2);
    }

    private static void promise9AllDown() {
        Calls x = new RealCalls(2, 4, 8);
        x.checkpoint(0);
        x.send(0, 1);
        x.deliver(0);
        x.checkpoint(1);
        x.send(0, 1);
        x.deliver(1);
        x.send(1, 0);
        x.deliver(2);
        x.crash(1);
        x.crash(0);
        Checks.due("reclaim()", x.reclaim(), 200);
        Checks.due("checkpointNumber(0, 0)", x.checkpointNumber(0, 0), 1);
        Checks.due("checkpointNumber(1, 0)", x.checkpointNumber(1, 0), 0);
        Checks.due("needed(0, 1)", x.needed(0, 1), 1);
        Checks.due("needed(1, 0)", x.needed(1, 0), 1);
        Checks.due("recover()", x.recover(), 3);
    }

    private static void promise9DecidesBeforeItChanges() {
        // The settled message and the old checkpoints go together in one call.
        Calls x = new RealCalls(3, 8, 8);
        x.send(0, 1);
        x.deliver(0);
        x.checkpoint(1);
        x.send(1, 2);
        x.deliver(1);
        x.checkpoint(2);
        x.checkpoint(0);
        x.checkpoint(1);
        Checks.due("reclaim()", x.reclaim(), 402);
        Checks.keepsAll(x, "reclaim() again", x::reclaim, 0);
    }

    private static void promise10Masks() {
        Calls x = new RealCalls(3, 4, 8);
        x.checkpoint(1);
        int[] without1 = {0, 1, 4, 5, 8, 16, -8, -16 + 5, Integer.MIN_VALUE, 0x7ffffff8};
        for (int mask : without1) {
            Checks.keepsAll(x, "probe(" + mask + ", 1)", () -> x.probe(mask, 1), RecoveryLine.NOW);
        }
        int[] with1 = {2, 3, 6, 7, 10, -1, -2, Integer.MIN_VALUE + 2, Integer.MAX_VALUE};
        for (int mask : with1) {
            Checks.keepsAll(x, "probe(" + mask + ", 1)", () -> x.probe(mask, 1), 1);
        }
        for (int p = 0; p < 3; p++) {
            Checks.due("probe(0, " + p + ")", x.probe(0, p), RecoveryLine.NOW);
            Checks.due("probe(-8, " + p + ")", x.probe(-8, p), RecoveryLine.NOW);
        }
    }

    private static void promise10Lines() {
        Calls x = withANewestBehind();
        int[][] lines = {{1000, 1000}, {0, 1}, {0, 1}, {0, 1}};
        for (int mask = 0; mask < 4; mask++) {
            Checks.due("probe(" + mask + ", 0)", x.probe(mask, 0), lines[mask][0]);
            Checks.due("probe(" + mask + ", 1)", x.probe(mask, 1), lines[mask][1]);
        }
        Calls y = new RealCalls(2, 4, 8);
        y.checkpoint(0);
        y.checkpoint(1);
        y.send(0, 1);
        Checks.due("probe(1, 1), in transit", y.probe(1, 1), RecoveryLine.NOW);
        y.deliver(0);
        Checks.due("probe(1, 0)", y.probe(1, 0), 1);
        Checks.due("probe(1, 1)", y.probe(1, 1), 1);
        Checks.due("probe(2, 0)", y.probe(2, 0), RecoveryLine.NOW);
    }

    private static void promise10LongDomino() {
        Calls x = new RealCalls(2, 8, 16);
        for (int number = 1; number < 8; number++) {
            Checks.due("deliver(send(0, 1))", x.deliver(x.send(0, 1)), RecoveryLine.OK);
            Checks.due("checkpoint(1)", x.checkpoint(1), number);
            Checks.due("deliver(send(1, 0))", x.deliver(x.send(1, 0)), RecoveryLine.OK);
            Checks.due("checkpoint(0)", x.checkpoint(0), number);
        }
        Checks.due("probe(1, 1) before the last message", x.probe(1, 1), RecoveryLine.NOW);
        Checks.due("probe(1, 0) before the last message", x.probe(1, 0), 7);
        Checks.due("probe(2, 1) before the last message", x.probe(2, 1), 0);
        x.deliver(x.send(0, 1));
        for (int mask = 1; mask < 4; mask++) {
            Checks.due("probe(" + mask + ", 0)", x.probe(mask, 0), 0);
            Checks.due("probe(" + mask + ", 1)", x.probe(mask, 1), 0);
        }
        Checks.due("reclaim()", x.reclaim(), 1400);
    }

    private static void promise10LongDominoRoundFour() {
        Calls x = new RealCalls(4, 8, 16);
        for (int i = 0; i < 16; i++) {
            int receiver = (i + 1) % 4;
            Checks.due("send on to " + receiver, x.send(i % 4, receiver), i);
            Checks.due("deliver(" + i + ")", x.deliver(i), RecoveryLine.OK);
            Checks.due("checkpoint(" + receiver + ")", x.checkpoint(receiver), 1 + i / 4);
        }
        // Process 0 sent in intervals 0 to 3 and has saved checkpoint 4 since.
        Checks.due("probe(1, 0)", x.probe(1, 0), 4);
        Checks.due("probe(1, 1)", x.probe(1, 1), RecoveryLine.NOW);
        // Process 3 sent on in its interval 4: undoing that takes 0 back to checkpoint 3,
        // 1 to 3, 2 to 2, 3 itself to 1, then 0 to 0, and so all of them to the start.
        for (int p = 0; p < 4; p++) {
            Checks.due("probe(8, " + p + ")", x.probe(8, p), 0);
        }
    }

    private static void promise10WhileDown() {
        Calls x = new RealCalls(3, 4, 8);
        x.checkpoint(0);
        x.send(0, 1);
        x.deliver(0);
        x.crash(0);
        int[] sameAs0 = {0, 1, 9, -8};
        for (int mask : sameAs0) {
            Checks.due("probe(" + mask + ", 0)", x.probe(mask, 0), 1);
            Checks.due("probe(" + mask + ", 1)", x.probe(mask, 1), 0);
            Checks.due("probe(" + mask + ", 2)", x.probe(mask, 2), RecoveryLine.NOW);
        }
        Checks.due("probe(4, 2)", x.probe(4, 2), 0);
        Checks.due("probe(4, 0)", x.probe(4, 0), 1);
    }

    private static void promise10Refuses() {
        Calls x = new RealCalls(3, 4, 8);
        for (int p : BAD_OF_THREE) {
            Checks.keepsAll(x, "probe(0, " + p + ")", () -> x.probe(0, p), RecoveryLine.BAD);
            Checks.keepsAll(x, "probe(-1, " + p + ")", () -> x.probe(-1, p), RecoveryLine.BAD);
        }
    }

    private static void promise11Needed() {
        Calls x = withANewestBehind();
        Checks.keepsAll(x, "needed(0, 0)", () -> x.needed(0, 0), 1);
        Checks.keepsAll(x, "needed(1, 0)", () -> x.needed(1, 0), 0);
        Checks.keepsAll(x, "needed(1, 1)", () -> x.needed(1, 1), 1);
        Checks.keepsAll(x, "needed(1, 2)", () -> x.needed(1, 2), 0);
        // Here process 1 falls to checkpoint 0 if 0 crashes, but not if it crashes alone.
        Calls y = new RealCalls(3, 4, 8);
        y.checkpoint(0);
        y.send(0, 1);
        y.deliver(0);
        y.checkpoint(1);
        Checks.due("needed(1, 0)", y.needed(1, 0), 1);
        Checks.due("needed(1, 1)", y.needed(1, 1), 1);
        Checks.due("needed(0, 0)", y.needed(0, 0), 0);
        Checks.due("needed(0, 1)", y.needed(0, 1), 1);
    }

    private static void promise11WhileDown() {
        Calls x = new RealCalls(2, 4, 8);
        x.checkpoint(0);
        x.send(0, 1);
        x.deliver(0);
        x.checkpoint(1);
        x.crash(0);
        Checks.due("needed(1, 0), 0 down", x.needed(1, 0), 1);
        Checks.due("needed(1, 1), 0 down", x.needed(1, 1), 0);
        x.recover();
        Checks.due("needed(1, 0) after recovery", x.needed(1, 0), 1);
        Checks.due("needed(1, 1) after recovery", x.needed(1, 1), RecoveryLine.NONE);
    }

    private static void promise11Refuses() {
        Calls x = new RealCalls(3, 4, 8);
        int[] notStored = {Integer.MIN_VALUE, -4, -1, 1, 99, 100, 1000, Integer.MAX_VALUE};
        for (int number : notStored) {
            Checks.keepsAll(x, "needed(1, " + number + ")", () -> x.needed(1, number), RecoveryLine.NONE);
        }
        for (int p : BAD_OF_THREE) {
            Checks.keepsAll(x, "needed(" + p + ", 0)", () -> x.needed(p, 0), RecoveryLine.BAD);
            Checks.keepsAll(x, "needed(" + p + ", 7)", () -> x.needed(p, 7), RecoveryLine.BAD);
        }
        x.checkpoint(2);
        x.reclaim();
        Checks.due("needed(2, 0) once reclaimed", x.needed(2, 0), RecoveryLine.NONE);
        Checks.due("needed(2, 1)", x.needed(2, 1), 1);
    }
}
