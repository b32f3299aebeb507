/** Promises 3, 4, 5 and 17: sending, delivery, loss, and looking at a slot. */
public final class MessagesTest {
    private static final int[] BAD_OF_THREE = {Integer.MIN_VALUE, -1, 3, Integer.MAX_VALUE};
    private static final int[] BAD_OF_FIVE_SLOTS = {Integer.MIN_VALUE, -1, 5, 16, Integer.MAX_VALUE};

    private MessagesTest() {
    }

    public static void main(String[] args) {
        promise3Sends();
        promise3TakesTheLeastEmptySlot();
        promise3Refuses();
        promise4Delivers();
        promise4WrapsAndTakesTheReceiversInterval();
        promise4Refuses();
        promise5Loses();
        promise5Refuses();
        promise17Looks();
        promise17Refuses();
        Checks.finish();
    }

    private static void slotIs(Calls x, int slot, int... fields) {
        for (int what = 0; what < fields.length; what++) {
            Checks.due("message(" + slot + ", " + what + ")", x.message(slot, what), fields[what]);
        }
    }

    private static void promise3Sends() {
        Calls x = new RealCalls(3, 3, 5);
        x.step(2, 100);
        x.checkpoint(2);
        Checks.changes(x, "send(2, 0)", () -> x.send(2, 0), 0,
                "message(0, 0)", "message(0, 1)", "message(0, 2)", "message(0, 3)", "message(0, 4)");
        slotIs(x, 0, RecoveryLine.IN_TRANSIT, 2, 0, 193, 1, RecoveryLine.NONE);
        x.step(2, 0);
        x.checkpoint(2);
        slotIs(x, 0, RecoveryLine.IN_TRANSIT, 2, 0, 193, 1, RecoveryLine.NONE);
        x.crash(1);
        Checks.due("send(0, 1) to a process that is down", x.send(0, 1), 1);
        slotIs(x, 1, RecoveryLine.IN_TRANSIT, 0, 1, 1, 0, RecoveryLine.NONE);
    }

    private static void promise3TakesTheLeastEmptySlot() {
        Calls x = new RealCalls(3, 3, 5);
        for (int slot = 0; slot < 5; slot++) {
            Checks.due("send(0, 1)", x.send(0, 1), slot);
        }
        x.lose(3);
        x.lose(1);
        Checks.due("send(1, 2)", x.send(1, 2), 1);
        Checks.due("send(1, 2)", x.send(1, 2), 3);
        Checks.keepsAll(x, "send(1, 2) without room", () -> x.send(1, 2), RecoveryLine.FULL);
        x.deliver(0);
        Checks.keepsAll(x, "send(1, 2) beside a received one", () -> x.send(1, 2), RecoveryLine.FULL);
    }

    private static void promise3Refuses() {
        Calls x = new RealCalls(3, 3, 5);
        for (int p : BAD_OF_THREE) {
            Checks.keepsAll(x, "send(" + p + ", 1)", () -> x.send(p, 1), RecoveryLine.BAD);
            Checks.keepsAll(x, "send(1, " + p + ")", () -> x.send(1, p), RecoveryLine.BAD);
        }
        Checks.keepsAll(x, "send(2, 2)", () -> x.send(2, 2), RecoveryLine.BAD);
        x.crash(2);
        Checks.keepsAll(x, "send(2, 2) while down", () -> x.send(2, 2), RecoveryLine.BAD);
        Checks.keepsAll(x, "send(2, 3) while down", () -> x.send(2, 3), RecoveryLine.BAD);
        Checks.keepsAll(x, "send(2, 0) while down", () -> x.send(2, 0), RecoveryLine.DOWN);
        for (int slot = 0; slot < 5; slot++) {
            x.send(0, 1);
        }
        Checks.keepsAll(x, "send(2, 0) while down and full", () -> x.send(2, 0), RecoveryLine.DOWN);
        Checks.keepsAll(x, "send(0, 0) while full", () -> x.send(0, 0), RecoveryLine.BAD);
        Checks.keepsAll(x, "send(0, 2) while full", () -> x.send(0, 2), RecoveryLine.FULL);
    }

    private static void promise4Delivers() {
        Calls x = new RealCalls(3, 3, 5);
        x.checkpoint(0);
        x.send(0, 2);
        x.step(0, 5);
        x.checkpoint(2);
        x.checkpoint(2);
        Checks.changes(x, "deliver(0)", () -> x.deliver(0), RecoveryLine.OK,
                "value(2)", "message(0, 0)", "message(0, 5)");
        Checks.due("value(2)", x.value(2), 31 * 3 + 1);
        slotIs(x, 0, RecoveryLine.RECEIVED, 0, 2, 1, 1, 2);
        x.send(1, 0);
        x.crash(1);
        Checks.due("deliver(1) from a process that is down", x.deliver(1), RecoveryLine.OK);
        Checks.due("value(0)", x.value(0), 31 * 36 + 2);
    }

    private static void promise4WrapsAndTakesTheReceiversInterval() {
        Calls x = new RealCalls(2, 3, 4);
        x.step(0, Integer.MAX_VALUE);
        x.step(1, Integer.MAX_VALUE);
        int sent = x.value(0);
        int had = x.value(1);
        x.send(0, 1);
        x.deliver(0);
        Checks.due("value(1) wraps", x.value(1), 31 * had + sent);
        Checks.due("message(0, 5)", x.message(0, 5), 0);
        x.checkpoint(1);
        Checks.due("message(0, 5) stays", x.message(0, 5), 0);
    }

    private static void promise4Refuses() {
        Calls x = new RealCalls(3, 3, 5);
        for (int slot : BAD_OF_FIVE_SLOTS) {
            Checks.keepsAll(x, "deliver(" + slot + ")", () -> x.deliver(slot), RecoveryLine.BAD);
        }
        Checks.keepsAll(x, "deliver(0) of an empty slot", () -> x.deliver(0), RecoveryLine.NONE);
        x.send(0, 1);
        x.deliver(0);
        Checks.keepsAll(x, "deliver(0) twice", () -> x.deliver(0), RecoveryLine.NONE);
        x.send(0, 1);
        x.crash(1);
        Checks.keepsAll(x, "deliver(0) twice, receiver down", () -> x.deliver(0), RecoveryLine.NONE);
        Checks.keepsAll(x, "deliver(1), receiver down", () -> x.deliver(1), RecoveryLine.DOWN);
        Checks.keepsAll(x, "deliver(4) of an empty slot", () -> x.deliver(4), RecoveryLine.NONE);
    }

    private static void promise5Loses() {
        Calls x = new RealCalls(3, 3, 5);
        x.checkpoint(0);
        x.send(0, 1);
        x.send(1, 0);
        Checks.changes(x, "lose(0)", () -> x.lose(0), RecoveryLine.OK,
                "message(0, 0)", "message(0, 1)", "message(0, 2)", "message(0, 3)", "message(0, 4)");
        slotIs(x, 0, RecoveryLine.EMPTY, RecoveryLine.NONE, RecoveryLine.NONE, RecoveryLine.NONE,
                RecoveryLine.NONE, RecoveryLine.NONE);
        x.crash(0);
        x.crash(1);
        Checks.due("lose(1) between processes that are down", x.lose(1), RecoveryLine.OK);
    }

    private static void promise5Refuses() {
        Calls x = new RealCalls(3, 3, 5);
        for (int slot : BAD_OF_FIVE_SLOTS) {
            Checks.keepsAll(x, "lose(" + slot + ")", () -> x.lose(slot), RecoveryLine.BAD);
        }
        Checks.keepsAll(x, "lose(4) of an empty slot", () -> x.lose(4), RecoveryLine.NONE);
        x.send(0, 1);
        x.deliver(0);
        Checks.keepsAll(x, "lose(0) after delivery", () -> x.lose(0), RecoveryLine.NONE);
        x.send(0, 1);
        x.lose(1);
        Checks.keepsAll(x, "lose(1) twice", () -> x.lose(1), RecoveryLine.NONE);
    }

    private static void promise17Looks() {
        Calls x = new RealCalls(3, 3, 5);
        slotIs(x, 4, RecoveryLine.EMPTY, RecoveryLine.NONE, RecoveryLine.NONE, RecoveryLine.NONE,
                RecoveryLine.NONE, RecoveryLine.NONE);
        x.step(1, -1000);
        x.checkpoint(1);
        x.checkpoint(1);
        x.checkpoint(2);
        x.send(1, 2);
        slotIs(x, 0, RecoveryLine.IN_TRANSIT, 1, 2, -938, 2, RecoveryLine.NONE);
        x.deliver(0);
        for (int what = 0; what <= 5; what++) {
            int field = what;
            int want = new int[] {RecoveryLine.RECEIVED, 1, 2, -938, 2, 1}[what];
            Checks.keepsAll(x, "message(0, " + what + ")", () -> x.message(0, field), want);
        }
        x.crash(1);
        x.crash(2);
        slotIs(x, 0, RecoveryLine.RECEIVED, 1, 2, -938, 2, 1);
    }

    private static void promise17Refuses() {
        Calls x = new RealCalls(3, 3, 5);
        x.send(0, 1);
        int[] badWhats = {Integer.MIN_VALUE, -1, 6, Integer.MAX_VALUE};
        for (int slot : BAD_OF_FIVE_SLOTS) {
            for (int what = 0; what <= 5; what++) {
                Checks.due("message(" + slot + ", " + what + ")", x.message(slot, what), RecoveryLine.BAD);
            }
        }
        for (int what : badWhats) {
            Checks.keepsAll(x, "message(0, " + what + ")", () -> x.message(0, what), RecoveryLine.BAD);
            Checks.keepsAll(x, "message(1, " + what + ") of an empty slot",
                    () -> x.message(1, what), RecoveryLine.BAD);
        }
    }
}
