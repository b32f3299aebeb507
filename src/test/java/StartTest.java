/** Promise 1: construction and the start. */
public final class StartTest {
    private StartTest() {
    }

    public static void main(String[] args) {
        clampsProcesses();
        clampsCheckpoints();
        clampsMessages();
        startsAsPromised();
        objectsAreApart();
        Checks.finish();
    }

    private static void clampsProcesses() {
        int[] wishes = {Integer.MIN_VALUE, -1, 0, 1, 2, 3, 4, 5, 9, Integer.MAX_VALUE};
        int[] counts = {2, 2, 2, 2, 2, 3, 4, 4, 4, 4};
        for (int i = 0; i < wishes.length; i++) {
            Calls x = new RealCalls(wishes[i], 3, 4);
            for (int p = -1; p <= 5; p++) {
                boolean there = p >= 0 && p < counts[i];
                Checks.due("processes " + wishes[i] + ": isUp(" + p + ")", x.isUp(p), there);
            }
        }
    }

    private static void clampsCheckpoints() {
        int[] wishes = {Integer.MIN_VALUE, -1, 0, 2, 3, 4, 5, 6, 7, 8, 9, Integer.MAX_VALUE};
        int[] counts = {3, 3, 3, 3, 3, 4, 5, 6, 7, 8, 8, 8};
        for (int i = 0; i < wishes.length; i++) {
            Calls x = new RealCalls(4, wishes[i], 4);
            for (int p = 0; p < 4; p++) {
                for (int number = 1; number < counts[i]; number++) {
                    Checks.due("checkpoints " + wishes[i], x.checkpoint(p), number);
                }
                Checks.due("checkpoints " + wishes[i] + " are full", x.checkpoint(p), RecoveryLine.FULL);
            }
        }
    }

    private static void clampsMessages() {
        int[] wishes = {Integer.MIN_VALUE, -1, 0, 3, 4, 5, 10, 15, 16, 17, Integer.MAX_VALUE};
        int[] counts = {4, 4, 4, 4, 4, 5, 10, 15, 16, 16, 16};
        for (int i = 0; i < wishes.length; i++) {
            Calls x = new RealCalls(2, 3, wishes[i]);
            for (int slot = 0; slot < counts[i]; slot++) {
                Checks.due("messages " + wishes[i], x.send(0, 1), slot);
            }
            Checks.due("messages " + wishes[i] + " are full", x.send(0, 1), RecoveryLine.FULL);
        }
    }

    private static void startsAsPromised() {
        Calls x = new RealCalls(4, 8, 16);
        for (int p = 0; p < 4; p++) {
            Checks.due("value(" + p + ")", x.value(p), p + 1);
            Checks.due("interval(" + p + ")", x.interval(p), 0);
            Checks.due("isUp(" + p + ")", x.isUp(p), true);
            Checks.due("checkpointNumber(" + p + ", 0)", x.checkpointNumber(p, 0), 0);
            Checks.due("checkpointNumber(" + p + ", 1)", x.checkpointNumber(p, 1), RecoveryLine.NONE);
            Checks.due("savedValue(" + p + ", 0)", x.savedValue(p, 0), p + 1);
        }
        for (int slot = 0; slot < 16; slot++) {
            Checks.due("message(" + slot + ", 0)", x.message(slot, 0), RecoveryLine.EMPTY);
        }
    }

    private static void objectsAreApart() {
        Calls one = new RealCalls(2, 3, 4);
        Calls other = new RealCalls(2, 3, 4);
        Checks.keepsAll(other, "work on another object", () -> one.step(0, 1) + one.send(0, 1), 0);
        Checks.keepsAll(other, "a checkpoint of another object", () -> one.checkpoint(1), 1);
        Checks.keepsAll(other, "a crash in another object", () -> one.crash(0), RecoveryLine.OK);
    }
}
