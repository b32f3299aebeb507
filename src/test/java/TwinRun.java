/** Two objects that go through the same run, but for one that reclaims now and then. */
final class TwinRun {
    static final int PROCESSES = 3;
    private static final int SLOTS = 16;

    private final Calls reclaiming = new RealCalls(PROCESSES, 8, SLOTS);
    private final Calls keeping = new RealCalls(PROCESSES, 8, SLOTS);
    // Where the message that the keeping one has in a slot lies in the reclaiming one.
    private final int[] twinSlots = new int[SLOTS];
    private long seed;

    TwinRun(int run) {
        seed = run;
    }

    Calls reclaiming() {
        return reclaiming;
    }

    Calls keeping() {
        return keeping;
    }

    private int below(int bound) {
        seed = seed * 6364136223846793005L + 1442695040888963407L;
        return (int) ((seed >>> 33) % bound);
    }

    void goOn() {
        int kind = below(32);
        if (kind < 8) {
            send();
        } else if (kind < 20) {
            deliver();
        } else if (kind < 25) {
            save();
        } else if (kind < 27) {
            int p = below(PROCESSES);
            Checks.due("crash(" + p + ")", reclaiming.crash(p), keeping.crash(p));
        } else if (kind < 29) {
            Checks.due("recover()", reclaiming.recover(), keeping.recover());
        } else {
            reclaiming.reclaim();
        }
    }

    private void send() {
        int p = below(PROCESSES);
        int q = (p + 1 + below(PROCESSES - 1)) % PROCESSES;
        int slot = keeping.send(p, q);
        // What the keeping one has no room for is left out in both.
        if (slot >= 0) {
            twinSlots[slot] = reclaiming.send(p, q);
            Checks.due("send(" + p + ", " + q + ") has room", twinSlots[slot] >= 0, true);
        }
    }

    private void deliver() {
        int slot = below(SLOTS);
        if (keeping.message(slot, 0) == RecoveryLine.IN_TRANSIT) {
            Checks.due("deliver(" + slot + ")", reclaiming.deliver(twinSlots[slot]), keeping.deliver(slot));
        }
    }

    private void save() {
        int p = below(PROCESSES);
        int number = keeping.checkpoint(p);
        if (number >= 0) {
            Checks.due("checkpoint(" + p + ")", reclaiming.checkpoint(p), number);
        }
    }
}
