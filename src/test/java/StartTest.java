/** Promise 1: construction and the start. */
public final class StartTest {
    private StartTest() {
    }

    public static void main(String[] args) {
        Checks.section("Promise 1");
        Checks.sentence("accepts all ints", StartTest::acceptsAllInts);
        Checks.sentence("n is processes clamped into 2..4.", StartTest::clampsProcesses);
        Checks.sentence("c is checkpoints clamped into 3..8.", StartTest::clampsCheckpoints);
        Checks.sentence("m is messages clamped into 4..16.", StartTest::clampsMessages);
        Checks.sentence("Clamped means: below the least becomes the least, above the greatest becomes the greatest, "
                + "and anything between stays.", StartTest::clampsAllAtOnce);
        Checks.sentence("At first every process p is up, has value p + 1 and interval number 0, and stores exactly "
                + "one checkpoint: number 0 with saved value p + 1.", StartTest::processesAtFirst);
        Checks.sentence("All slots are EMPTY.", StartTest::slotsAtFirst);
        Checks.sentence("n, c and m never change afterwards.", StartTest::sizesStay);
        objectsAreApart();
        Checks.finish();
    }

    private static int clamped(int wish, int least, int most) {
        return Math.max(least, Math.min(most, wish));
    }

    private static void hasProcesses(Calls x, String when, int n) {
        for (int p = 0; p < n; p++) {
            Checks.due(when + ": interval(" + p + ")", x.interval(p) >= 0, true);
        }
        Checks.due(when + ": interval(-1)", x.interval(-1), RecoveryLine.BAD);
        for (int p = n; p <= 5; p++) {
            Checks.due(when + ": interval(" + p + ")", x.interval(p), RecoveryLine.BAD);
        }
    }

    /** To be asked while p is up and below the limit: saves until it is refused. */
    private static void hasRoomFor(Calls x, String when, int p, int c) {
        for (int i = 0; i < 10; i++) {
            x.checkpoint(p);
        }
        Checks.due(when + ": checkpoint(" + p + ")", x.checkpoint(p), RecoveryLine.FULL);
        Checks.due(when + ": the last of " + p + " is stored",
                x.checkpointNumber(p, c - 1) != RecoveryLine.NONE, true);
        Checks.due(when + ": beyond the last of " + p, x.checkpointNumber(p, c), RecoveryLine.NONE);
    }

    private static void hasSlots(Calls x, String when, int m) {
        for (int slot = 0; slot < m; slot++) {
            Checks.due(when + ": message(" + slot + ", 0)", x.message(slot, 0) >= 0, true);
        }
        Checks.due(when + ": message(-1, 0)", x.message(-1, 0), RecoveryLine.BAD);
        for (int slot = m; slot <= 17; slot++) {
            Checks.due(when + ": message(" + slot + ", 0)", x.message(slot, 0), RecoveryLine.BAD);
        }
    }

    private static void acceptsAllInts() {
        int[] wishes = Edges.ints();
        for (int i = 0; i < wishes.length; i++) {
            int other = wishes[(i * 7 + 3) % wishes.length];
            Calls x = new RealCalls(wishes[i], other, wishes[wishes.length - 1 - i]);
            Checks.due("processes " + wishes[i] + ", checkpoints " + other + ": checkpoint(1)", x.checkpoint(1), 1);
            Checks.due("messages " + wishes[wishes.length - 1 - i] + ": send(0, 1)", x.send(0, 1), 0);
        }
    }

    private static void clampsProcesses() {
        for (int wish : Edges.ints()) {
            hasProcesses(new RealCalls(wish, 3, 4), "processes " + wish, clamped(wish, 2, 4));
        }
    }

    private static void clampsCheckpoints() {
        for (int wish : Edges.ints()) {
            Calls x = new RealCalls(4, wish, 4);
            for (int p = 0; p < 4; p++) {
                hasRoomFor(x, "checkpoints " + wish, p, clamped(wish, 3, 8));
            }
        }
    }

    private static void clampsMessages() {
        for (int wish : Edges.ints()) {
            Calls x = new RealCalls(2, 3, wish);
            int m = clamped(wish, 4, 16);
            hasSlots(x, "messages " + wish, m);
            for (int slot = 0; slot < m; slot++) {
                Checks.due("messages " + wish + ": send(0, 1)", x.send(0, 1), slot);
            }
            Checks.due("messages " + wish + ": send(0, 1) once more", x.send(0, 1), RecoveryLine.FULL);
        }
    }

    private static void clampsAllAtOnce() {
        int[] wishes = {Integer.MIN_VALUE, 1, 2, 3, 4, 5, 8, 9, 16, 17, Integer.MAX_VALUE};
        int[] processes = {2, 2, 2, 3, 4, 4, 4, 4, 4, 4, 4};
        int[] checkpoints = {3, 3, 3, 3, 4, 5, 8, 8, 8, 8, 8};
        int[] messages = {4, 4, 4, 4, 4, 5, 8, 9, 16, 16, 16};
        for (int i = 0; i < wishes.length; i++) {
            Calls x = new RealCalls(wishes[i], wishes[i], wishes[i]);
            hasProcesses(x, "all " + wishes[i], processes[i]);
            hasRoomFor(x, "all " + wishes[i], 0, checkpoints[i]);
            hasSlots(x, "all " + wishes[i], messages[i]);
        }
    }

    private static void processesAtFirst() {
        for (int n = 2; n <= 4; n++) {
            Calls x = new RealCalls(n, 8, 16);
            for (int p = 0; p < n; p++) {
                Checks.due("isUp(" + p + ")", x.isUp(p), true);
                Checks.due("value(" + p + ")", x.value(p), p + 1);
                Checks.due("interval(" + p + ")", x.interval(p), 0);
                Checks.stored(x, p, 0);
                Checks.due("savedValue(" + p + ", 0)", x.savedValue(p, 0), p + 1);
            }
        }
    }

    private static void slotsAtFirst() {
        for (int m = 4; m <= 16; m++) {
            Calls x = new RealCalls(2, 3, m);
            for (int slot = 0; slot < m; slot++) {
                Checks.slotIsEmpty(x, slot);
            }
        }
    }

    private static void sizesStay() {
        for (State state : State.all()) {
            Calls x = state.real();
            hasProcesses(x, state.name(), state.processes());
            hasSlots(x, state.name(), state.slots());
            x.recover();
            x.reclaim();
            hasProcesses(x, state.name() + ", recovered", state.processes());
            hasSlots(x, state.name() + ", recovered", state.slots());
            hasRoomFor(x, state.name() + ", recovered", 1, state.checkpoints());
        }
    }

    private static void objectsAreApart() {
        Calls one = new RealCalls(2, 3, 4);
        Calls other = new RealCalls(2, 3, 4);
        Checks.keepsAll(other, "work on another object", () -> one.step(0, 1) + one.send(0, 1), 0);
        Checks.keepsAll(other, "a checkpoint of another object", () -> one.checkpoint(1), 1);
        Checks.keepsAll(other, "a crash in another object", () -> one.crash(0), RecoveryLine.OK);
    }
}
