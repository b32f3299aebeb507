/** Promises 2, 7, 12, 13 and 14: local work, crashing, and looking at a process. */
public final class ProcessesTest {
    private static final int[] BAD_OF_THREE = {Integer.MIN_VALUE, -1, 3, 4, Integer.MAX_VALUE};

    private ProcessesTest() {
    }

    public static void main(String[] args) {
        promise2Works();
        promise2Refuses();
        promise7Crashes();
        promise7Refuses();
        promise7OthersGoOn();
        promise7AllMayBeDown();
        promise12Value();
        promise13Interval();
        promise14Up();
        Checks.finish();
    }

    private static void promise2Works() {
        Calls x = new RealCalls(3, 3, 4);
        x.send(1, 2);
        x.checkpoint(1);
        Checks.changes(x, "step(1, 7)", () -> x.step(1, 7), RecoveryLine.OK, "value(1)");
        Checks.due("value(1)", x.value(1), 31 * 2 + 7);
        Checks.changes(x, "step(1, -70)", () -> x.step(1, -70), RecoveryLine.OK, "value(1)");
        Checks.due("value(1)", x.value(1), 31 * 69 - 70);
        x.step(0, Integer.MAX_VALUE);
        Checks.due("value(0) wraps", x.value(0), Integer.MIN_VALUE + 30);
        x.step(0, Integer.MIN_VALUE);
        Checks.due("value(0) wraps again", x.value(0), 31 * (Integer.MIN_VALUE + 30) + Integer.MIN_VALUE);
        x.step(2, -31 * 3);
        Checks.due("value(2) may be 0", x.value(2), 0);
    }

    private static void promise2Refuses() {
        Calls x = new RealCalls(3, 3, 4);
        for (int p : BAD_OF_THREE) {
            Checks.keepsAll(x, "step(" + p + ", 1)", () -> x.step(p, 1), RecoveryLine.BAD);
        }
        x.crash(2);
        Checks.keepsAll(x, "step(2, 1) while down", () -> x.step(2, 1), RecoveryLine.DOWN);
    }

    private static void promise7Crashes() {
        Calls x = new RealCalls(3, 3, 4);
        x.checkpoint(1);
        x.send(1, 2);
        x.send(2, 1);
        x.deliver(1);
        x.step(1, 9);
        Checks.changes(x, "crash(1)", () -> x.crash(1), RecoveryLine.OK, "value(1)", "isUp(1)");
        Checks.due("value(1) while down", x.value(1), 0);
        Checks.due("interval(1) while down", x.interval(1), 1);
    }

    private static void promise7Refuses() {
        Calls x = new RealCalls(3, 3, 4);
        for (int p : BAD_OF_THREE) {
            Checks.keepsAll(x, "crash(" + p + ")", () -> x.crash(p), RecoveryLine.BAD);
        }
        x.crash(0);
        Checks.keepsAll(x, "crash(0) again", () -> x.crash(0), RecoveryLine.DOWN);
    }

    private static void promise7OthersGoOn() {
        Calls x = new RealCalls(3, 3, 4);
        x.crash(0);
        Checks.due("step(1, 0)", x.step(1, 0), RecoveryLine.OK);
        Checks.due("send(1, 2)", x.send(1, 2), 0);
        Checks.due("deliver(0)", x.deliver(0), RecoveryLine.OK);
        Checks.due("checkpoint(2)", x.checkpoint(2), 1);
    }

    private static void promise7AllMayBeDown() {
        Calls x = new RealCalls(3, 3, 4);
        for (int p = 0; p < 3; p++) {
            Checks.due("crash(" + p + ")", x.crash(p), RecoveryLine.OK);
        }
        for (int p = 0; p < 3; p++) {
            Checks.due("isUp(" + p + ")", x.isUp(p), false);
            Checks.due("probe(0, " + p + ")", x.probe(0, p), 0);
        }
        Checks.due("recover() of all", x.recover(), 7);
    }

    private static void promise12Value() {
        Calls x = new RealCalls(3, 3, 4);
        for (int p : BAD_OF_THREE) {
            Checks.keepsAll(x, "value(" + p + ")", () -> x.value(p), 0);
        }
        Checks.keepsAll(x, "value(2)", () -> x.value(2), 3);
        x.crash(2);
        Checks.keepsAll(x, "value(2) while down", () -> x.value(2), 0);
        x.recover();
        Checks.due("value(2) up again", x.value(2), 3);
    }

    private static void promise13Interval() {
        Calls x = new RealCalls(3, 3, 4);
        for (int p : BAD_OF_THREE) {
            Checks.keepsAll(x, "interval(" + p + ")", () -> x.interval(p), RecoveryLine.BAD);
        }
        x.checkpoint(2);
        x.checkpoint(2);
        Checks.keepsAll(x, "interval(2)", () -> x.interval(2), 2);
        x.crash(2);
        Checks.keepsAll(x, "interval(2) while down", () -> x.interval(2), 2);
        Checks.due("interval(0)", x.interval(0), 0);
    }

    private static void promise14Up() {
        Calls x = new RealCalls(3, 3, 4);
        x.crash(1);
        for (int p : BAD_OF_THREE) {
            Checks.keepsAll(x, "isUp(" + p + ")", () -> x.isUp(p) ? 1 : 0, 0);
        }
        Checks.keepsAll(x, "isUp(0)", () -> x.isUp(0) ? 1 : 0, 1);
        Checks.keepsAll(x, "isUp(1) while down", () -> x.isUp(1) ? 1 : 0, 0);
        Checks.due("recover()", x.recover(), 2);
        Checks.due("isUp(1) after recovery", x.isUp(1), true);
    }
}
