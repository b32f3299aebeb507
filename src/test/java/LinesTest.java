/** Promises 10 and 11: what if more processes crashed, and is a checkpoint NEEDED. */
public final class LinesTest {
    private static final int NOW = RecoveryLine.NOW;

    private LinesTest() {
    }

    public static void main(String[] args) {
        Checks.section("Promise 10");
        Checks.sentence("p is bad: BAD.", LinesTest::probeOfABadProcess);
        Checks.sentence("Otherwise let T be D together with every process q for which bit q of mask is set, that is "
                + "(mask & (1 << q)) != 0 for q in 0 .. n-1.", LinesTest::maskAndDown);
        Checks.sentence("The other bits of mask are ignored, so every int, negative ones included, is allowed.",
                LinesTest::otherBitsAreIgnored);
        Checks.sentence("Answers the component of p in line(T): NOW if it is \"now\", else the checkpoint number.",
                LinesTest::components);
        Checks.sentence("If T is empty, every component is \"now\".", LinesTest::withoutACrash);
        Checks.sentence("Bits of processes that are already down make no difference.", LinesTest::bitsOfThoseDown);
        Checks.sentence("p need not be in T.", LinesTest::outsideT);
        Checks.sentence("Nothing changes; no process crashes.", LinesTest::probeChangesNothing);
        longDomino();
        longDominoRoundFour();
        Checks.section("Promise 11");
        Checks.sentence("p is bad: BAD.", LinesTest::neededOfABadProcess);
        Checks.sentence("No checkpoint of p with that number is stored: NONE, for any int number.",
                LinesTest::neededOfNothing);
        Checks.sentence("Otherwise 1 if that checkpoint is NEEDED, 0 if not.", LinesTest::neededOrNot);
        Checks.sentence("Nothing changes.", LinesTest::neededChangesNothing);
        Checks.finish();
    }

    private static void probeOfABadProcess() {
        for (int n = 2; n <= 4; n++) {
            Calls x = new RealCalls(n, 3, 4);
            for (int p : Edges.badOf(n)) {
                for (int mask : Edges.ints()) {
                    Checks.due("probe(" + mask + ", " + p + ")", x.probe(mask, p), RecoveryLine.BAD);
                }
            }
        }
    }

    private static void maskAndDown() {
        for (int n = 2; n <= 4; n++) {
            for (int down = 0; down < 1 << n; down++) {
                Calls x = new RealCalls(n, 3, 4);
                for (int p = 0; p < n; p++) {
                    if ((down >> p & 1) != 0) {
                        x.crash(p);
                    }
                }
                for (int mask = 0; mask < 1 << n; mask++) {
                    for (int p = 0; p < n; p++) {
                        Checks.due("probe(" + mask + ", " + p + "), down are " + down, x.probe(mask, p),
                                ((down | mask) >> p & 1) != 0 ? 0 : NOW);
                    }
                }
            }
        }
    }

    private static void otherBitsAreIgnored() {
        for (int n = 2; n <= 4; n++) {
            Calls x = new RealCalls(n, 3, 4);
            x.checkpoint(0);
            Edges.pass(x, 0, 1);
            for (int mask : Edges.ints()) {
                for (int p = 0; p < n; p++) {
                    Checks.due("probe(" + mask + ", " + p + ") of " + n, x.probe(mask, p),
                            x.probe(mask & ((1 << n) - 1), p));
                }
            }
            // Just the bits beyond the processes, and just those of processes.
            Checks.lineIs(x, -(1 << n), NOW, NOW);
            Checks.lineIs(x, 1 << n, NOW, NOW);
            Checks.lineIs(x, Integer.MIN_VALUE, NOW, NOW);
            Checks.lineIs(x, -1, 1, 0);
            Checks.lineIs(x, Integer.MAX_VALUE, 1, 0);
            Checks.lineIs(x, Integer.MIN_VALUE + 2, NOW, 0);
        }
    }

    private static void components() {
        Calls x = new RealCalls(2, 4, 8);
        x.checkpoint(0);
        x.checkpoint(1);
        x.send(0, 1);
        Checks.lineIs(x, 1, 1, NOW);
        x.deliver(0);
        Checks.lineIs(x, 1, 1, 1);
        Checks.lineIs(x, 2, NOW, 1);
        Checks.lineIs(x, 3, 1, 1);
        // At the limit, where "now" counts 100, and from checkpoint 0 on.
        Edges.raise(x, 0, 99);
        Checks.lineIs(x, 0, NOW, NOW);
        Checks.lineIs(x, 1, 99, NOW);
        Edges.pass(x, 1, 0);
        Checks.lineIs(x, 2, 99, 1);
    }

    private static void withoutACrash() {
        for (State state : State.all()) {
            Calls x = state.real();
            x.recover();
            for (int p = 0; p < state.processes(); p++) {
                Checks.due(state.name() + ", all up: probe(0, " + p + ")", x.probe(0, p), NOW);
                Checks.due(state.name() + ", all up: probe(-16, " + p + ")", x.probe(-16, p), NOW);
            }
        }
        Calls x = withANewestBehind();
        Checks.lineIs(x, 0, NOW, NOW);
    }

    private static void bitsOfThoseDown() {
        Calls x = new RealCalls(3, 4, 8);
        x.checkpoint(0);
        Edges.pass(x, 0, 1);
        x.crash(0);
        for (int mask : new int[] {0, 1, 9, -8, -7}) {
            Checks.lineIs(x, mask, 1, 0, NOW);
        }
        for (int mask : new int[] {4, 5, 6, 7, -1, -2, -4}) {
            Checks.lineIs(x, mask, 1, 0, 0);
        }
        x.crash(1);
        x.crash(2);
        for (int mask : Edges.ints()) {
            Checks.lineIs(x, mask, 1, 0, 0);
        }
    }

    private static void outsideT() {
        Calls x = new RealCalls(4, 4, 8);
        x.checkpoint(0);
        Edges.pass(x, 0, 3);
        x.checkpoint(2);
        Checks.lineIs(x, 1, 1, NOW, NOW, 0);
        Checks.lineIs(x, 4, NOW, NOW, 1, NOW);
        Checks.lineIs(x, 5, 1, NOW, 1, 0);
    }

    private static void probeChangesNothing() {
        Calls x = withANewestBehind();
        x.send(0, 1);
        int[][] lines = {{NOW, NOW}, {0, 1}, {0, 1}, {0, 1}};
        for (int set = 0; set < 4; set++) {
            int mask = set;
            Checks.keepsAll(x, "probe(" + mask + ", 0)", () -> x.probe(mask, 0), lines[set][0]);
            Checks.keepsAll(x, "probe(" + mask + ", 1)", () -> x.probe(mask, 1), lines[set][1]);
        }
        Checks.keepsAll(x, "probe(-1, 2)", () -> x.probe(-1, 2), RecoveryLine.BAD);
        Checks.due("isUp(0)", x.isUp(0), true);
        Checks.due("isUp(1)", x.isUp(1), true);
        Checks.due("recover()", x.recover(), 0);
    }

    private static void longDomino() {
        Calls x = new RealCalls(2, 8, 16);
        for (int number = 1; number < 8; number++) {
            Edges.pass(x, 0, 1);
            Checks.due("checkpoint(1)", x.checkpoint(1), number);
            Edges.pass(x, 1, 0);
            Checks.due("checkpoint(0)", x.checkpoint(0), number);
        }
        Checks.lineIs(x, 1, 7, NOW);
        Checks.lineIs(x, 2, 0, 0);
        Edges.pass(x, 0, 1);
        for (int mask = 1; mask < 4; mask++) {
            Checks.lineIs(x, mask, 0, 0);
        }
        Checks.due("reclaim()", x.reclaim(), 1400);
    }

    private static void longDominoRoundFour() {
        Calls x = new RealCalls(4, 8, 16);
        for (int i = 0; i < 16; i++) {
            int receiver = (i + 1) % 4;
            Edges.pass(x, i % 4, receiver);
            Checks.due("checkpoint(" + receiver + ")", x.checkpoint(receiver), 1 + i / 4);
        }
        // Process 0 sent in intervals 0 to 3 and has saved checkpoint 4 since.
        Checks.lineIs(x, 1, 4, NOW, NOW, NOW);
        // Process 3 sent on in its interval 4: undoing that takes 0 back to checkpoint 3,
        // 1 to 3, 2 to 2, 3 itself to 1, then 0 to 0, and so all of them to the start.
        Checks.lineIs(x, 8, 0, 0, 0, 0);
    }

    private static void neededOfABadProcess() {
        for (int n = 2; n <= 4; n++) {
            Calls x = new RealCalls(n, 3, 4);
            for (int p : Edges.badOf(n)) {
                for (int number : Edges.ints()) {
                    Checks.due("needed(" + p + ", " + number + ")", x.needed(p, number), RecoveryLine.BAD);
                }
            }
        }
    }

    private static void neededOfNothing() {
        Calls x = new RealCalls(3, 4, 8);
        for (int number : Edges.ints()) {
            for (int p = 0; p < 3; p++) {
                Checks.due("needed(" + p + ", " + number + ")", x.needed(p, number),
                        number == 0 ? 1 : RecoveryLine.NONE);
            }
        }
        // Numbers that were stored once: reclaimed, or taken away by recovery.
        x.checkpoint(2);
        x.reclaim();
        Checks.due("needed(2, 0) once reclaimed", x.needed(2, 0), RecoveryLine.NONE);
        Checks.due("needed(2, 1)", x.needed(2, 1), 1);
        Edges.pass(x, 0, 1);
        x.checkpoint(1);
        x.crash(0);
        Checks.due("needed(1, 1), 0 down", x.needed(1, 1), 0);
        x.recover();
        Checks.due("needed(1, 1) once taken away", x.needed(1, 1), RecoveryLine.NONE);
    }

    /** Leaves checkpoint 2 of process 1, its newest, behind every line. */
    private static Calls withANewestBehind() {
        Calls x = new RealCalls(2, 4, 8);
        x.checkpoint(1);
        Edges.pass(x, 0, 1);
        x.checkpoint(1);
        Edges.pass(x, 1, 0);
        return x;
    }

    private static void neededOrNot() {
        Calls x = withANewestBehind();
        Checks.due("needed(0, 0)", x.needed(0, 0), 1);
        Checks.due("needed(1, 0)", x.needed(1, 0), 0);
        Checks.due("needed(1, 1)", x.needed(1, 1), 1);
        Checks.due("needed(1, 2)", x.needed(1, 2), 0);
        // Here process 1 falls to checkpoint 0 if 0 crashes, but not if it crashes alone.
        Calls y = new RealCalls(3, 4, 8);
        y.checkpoint(0);
        Edges.pass(y, 0, 1);
        y.checkpoint(1);
        Checks.due("needed(1, 0)", y.needed(1, 0), 1);
        Checks.due("needed(1, 1)", y.needed(1, 1), 1);
        Checks.due("needed(0, 0)", y.needed(0, 0), 0);
        Checks.due("needed(0, 1)", y.needed(0, 1), 1);
        // Once 0 is down for certain, the newer one is of no use.
        y.crash(0);
        Checks.due("needed(1, 0), 0 down", y.needed(1, 0), 1);
        Checks.due("needed(1, 1), 0 down", y.needed(1, 1), 0);
    }

    private static void neededChangesNothing() {
        Calls x = withANewestBehind();
        Checks.keepsAll(x, "needed(1, 1)", () -> x.needed(1, 1), 1);
        Checks.keepsAll(x, "needed(1, 2)", () -> x.needed(1, 2), 0);
        Checks.keepsAll(x, "needed(1, 3)", () -> x.needed(1, 3), RecoveryLine.NONE);
        Checks.keepsAll(x, "needed(2, 0)", () -> x.needed(2, 0), RecoveryLine.BAD);
        Checks.due("reclaim() still takes it", x.reclaim(), 200);
    }
}
