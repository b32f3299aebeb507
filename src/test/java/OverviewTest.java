/** The section "What it is", and what the public constants mean. */
public final class OverviewTest {
    private OverviewTest() {
    }

    public static void main(String[] args) {
        Checks.section("What it is");
        Checks.sentence("RecoveryLine is a small system of processes that send, receive and save checkpoints at will, "
                + "without coordination.", OverviewTest::eachAtWill);
        Checks.sentence("After crashes the whole system rolls back to the greatest consistent recovery line.",
                OverviewTest::allRollBackTogether);
        Checks.sentence("Checkpoints and message records that no later line can need may be reclaimed at any time.",
                OverviewTest::reclaimingIsNeverMissed);
        Checks.sentence("One can also ask what the line would be if further processes crashed now.",
                OverviewTest::askingTellsWhatCrashingBrings);
        Checks.section("Public constants");
        Checks.sentence("| OK | 0 | the call was carried out |", OverviewTest::carriedOut);
        Checks.sentence("| BAD | -1 | an argument is not allowed |", OverviewTest::notAllowed);
        Checks.sentence("| DOWN | -2 | the process concerned is down |", OverviewTest::concernedIsDown);
        Checks.sentence("| FULL | -3 | no room |", OverviewTest::noRoom);
        Checks.sentence("| NONE | -4 | there is no such thing |", OverviewTest::noSuchThing);
        Checks.sentence("| LIMIT | -5 | the interval number cannot grow |", OverviewTest::cannotGrow);
        Checks.sentence("| NOW | 1000 | answer of probe for the component \"now\" |", OverviewTest::theComponentNow);
        Checks.sentence("| MAX_NUMBER | 99 | the greatest interval number and checkpoint number |",
                OverviewTest::theGreatestNumber);
        Checks.sentence("| EMPTY | 0 | slot state | | IN_TRANSIT | 1 | slot state | | RECEIVED | 2 | slot state |",
                OverviewTest::slotStates);
        Checks.finish();
    }

    /** One process goes on though all others are down, and none of them changes by it. */
    private static void eachAtWill() {
        for (int p = 0; p < 4; p++) {
            Calls x = new RealCalls(4, 3, 16);
            for (int step = 1; step < 4; step++) {
                x.send((p + step) % 4, p);
            }
            for (int step = 1; step < 4; step++) {
                x.crash((p + step) % 4);
            }
            for (int slot = 0; slot < 3; slot++) {
                Checks.due("send of " + p, x.send(p, (p + 1 + slot) % 4), 3 + slot);
                Checks.due("deliver(" + slot + ") to " + p, x.deliver(slot), RecoveryLine.OK);
                Checks.due("step of " + p, x.step(p, slot), RecoveryLine.OK);
                Checks.due("checkpoint(" + p + ")", x.checkpoint(p), slot < 2 ? slot + 1 : RecoveryLine.FULL);
            }
            for (int step = 1; step < 4; step++) {
                int other = (p + step) % 4;
                Checks.due("interval(" + other + ")", x.interval(other), 0);
                Checks.stored(x, other, 0);
            }
        }
    }

    private static void crashAll(Calls x, int set) {
        for (int p = 0; p < 4; p++) {
            if ((set >> p & 1) != 0) {
                x.crash(p);
            }
        }
    }

    private static void allRollBackTogether() {
        for (State state : State.all()) {
            for (int set = 1; set < 1 << state.processes(); set++) {
                rollsBack(state, set);
            }
        }
    }

    private static void rollsBack(State state, int set) {
        String when = state.name() + ", crashed " + set + ": ";
        Calls before = state.real();
        crashAll(before, set);
        Calls x = state.real();
        crashAll(x, set);
        Choices choices = Choices.of(before);
        int[] line = choices.line(choices.down());
        x.recover();
        for (int p = 0; p < state.processes(); p++) {
            boolean now = line[p] == choices.now(p);
            Checks.due(when + "isUp(" + p + ")", x.isUp(p), true);
            Checks.due(when + "interval(" + p + ")", x.interval(p), now ? before.interval(p) : line[p]);
            Checks.due(when + "value(" + p + ")", x.value(p), now ? before.value(p) : before.savedValue(p, line[p]));
        }
        for (int slot = 0; slot < state.slots(); slot++) {
            if (x.message(slot, 0) == RecoveryLine.RECEIVED) {
                Checks.due(when + "the sending of " + slot + " has been",
                        x.message(slot, 4) < line[x.message(slot, 1)], true);
                Checks.due(when + "the receipt of " + slot + " has been",
                        x.message(slot, 5) < line[x.message(slot, 2)], true);
            }
        }
    }

    private static void reclaimingIsNeverMissed() {
        for (State state : State.all()) {
            Calls x = state.real();
            x.reclaim();
            sameLines(x, state.real(), state.processes(), state.name());
        }
        for (int run = 0; run < 300; run++) {
            TwinRun twins = new TwinRun(run);
            for (int i = 0; i < 60; i++) {
                twins.goOn();
                sameLines(twins.reclaiming(), twins.keeping(), TwinRun.PROCESSES, "run " + run + ", call " + i);
            }
        }
    }

    private static void sameLines(Calls reclaimed, Calls kept, int processes, String when) {
        for (int p = 0; p < processes; p++) {
            Checks.due(when + ": value(" + p + ")", reclaimed.value(p), kept.value(p));
            Checks.due(when + ": interval(" + p + ")", reclaimed.interval(p), kept.interval(p));
            Checks.due(when + ": isUp(" + p + ")", reclaimed.isUp(p), kept.isUp(p));
            for (int mask = 0; mask < 1 << processes; mask++) {
                Checks.due(when + ": probe(" + mask + ", " + p + ")", reclaimed.probe(mask, p), kept.probe(mask, p));
            }
        }
    }

    private static void askingTellsWhatCrashingBrings() {
        for (State state : State.all()) {
            for (int mask = 0; mask < 1 << state.processes(); mask++) {
                String when = state.name() + ", mask " + mask + ": ";
                Calls asked = state.real();
                Calls x = state.real();
                crashAll(x, mask);
                int rolledBack = 0;
                for (int p = 0; p < state.processes(); p++) {
                    rolledBack += asked.probe(mask, p) == RecoveryLine.NOW ? 0 : 1 << p;
                }
                Checks.due(when + "recover()", x.recover(), rolledBack);
                for (int p = 0; p < state.processes(); p++) {
                    int told = asked.probe(mask, p);
                    Checks.due(when + "interval(" + p + ")", x.interval(p),
                            told == RecoveryLine.NOW ? asked.interval(p) : told);
                }
            }
        }
    }

    private static void carriedOut() {
        Calls x = new RealCalls(2, 3, 4);
        x.send(0, 1);
        x.send(0, 1);
        Checks.due("step(0, 1)", x.step(0, 1), 0);
        Checks.due("deliver(0)", x.deliver(0), 0);
        Checks.due("lose(1)", x.lose(1), 0);
        Checks.due("crash(0)", x.crash(0), 0);
    }

    private static void notAllowed() {
        Calls x = new RealCalls(2, 3, 4);
        Checks.due("step(2, 1)", x.step(2, 1), -1);
        Checks.due("send(0, 2)", x.send(0, 2), -1);
        Checks.due("deliver(4)", x.deliver(4), -1);
        Checks.due("lose(-1)", x.lose(-1), -1);
        Checks.due("checkpoint(2)", x.checkpoint(2), -1);
        Checks.due("crash(-1)", x.crash(-1), -1);
        Checks.due("probe(0, 2)", x.probe(0, 2), -1);
        Checks.due("needed(2, 0)", x.needed(2, 0), -1);
        Checks.due("interval(2)", x.interval(2), -1);
        Checks.due("checkpointNumber(2, 0)", x.checkpointNumber(2, 0), -1);
        Checks.due("message(0, 6)", x.message(0, 6), -1);
    }

    private static void concernedIsDown() {
        Calls x = new RealCalls(2, 3, 4);
        x.send(1, 0);
        x.crash(0);
        Checks.due("step(0, 1)", x.step(0, 1), -2);
        Checks.due("send(0, 1)", x.send(0, 1), -2);
        Checks.due("deliver(0)", x.deliver(0), -2);
        Checks.due("checkpoint(0)", x.checkpoint(0), -2);
        Checks.due("crash(0)", x.crash(0), -2);
    }

    private static void noRoom() {
        Calls x = new RealCalls(2, 3, 4);
        Edges.fillSlots(x, 0, 1, 4);
        Checks.due("send(0, 1)", x.send(0, 1), -3);
        x.checkpoint(1);
        x.checkpoint(1);
        Checks.due("checkpoint(1)", x.checkpoint(1), -3);
    }

    private static void noSuchThing() {
        Calls x = new RealCalls(2, 3, 4);
        x.send(0, 1);
        Checks.due("deliver(1)", x.deliver(1), -4);
        Checks.due("lose(1)", x.lose(1), -4);
        Checks.due("needed(0, 1)", x.needed(0, 1), -4);
        Checks.due("checkpointNumber(0, 1)", x.checkpointNumber(0, 1), -4);
        Checks.due("message(1, 1)", x.message(1, 1), -4);
        Checks.due("message(0, 5)", x.message(0, 5), -4);
    }

    private static void cannotGrow() {
        Calls x = new RealCalls(2, 3, 4);
        Edges.raise(x, 1, 99);
        Checks.due("checkpoint(1)", x.checkpoint(1), -5);
        Checks.due("checkpoint(0)", x.checkpoint(0), 1);
    }

    private static void theComponentNow() {
        Calls x = new RealCalls(2, 3, 4);
        Edges.raise(x, 1, 99);
        Checks.lineIs(x, 0, 1000, 1000);
        Checks.lineIs(x, 1, 0, 1000);
        Checks.lineIs(x, 2, 1000, 99);
    }

    private static void theGreatestNumber() {
        Calls x = new RealCalls(2, 8, 4);
        Edges.raise(x, 0, 98);
        Checks.due("checkpoint(0)", x.checkpoint(0), 99);
        x.checkpoint(0);
        Checks.due("interval(0)", x.interval(0), 99);
        Checks.stored(x, 0, 98, 99);
    }

    private static void slotStates() {
        Calls x = new RealCalls(2, 3, 4);
        Checks.due("message(0, 0)", x.message(0, 0), 0);
        x.send(0, 1);
        Checks.due("message(0, 0)", x.message(0, 0), 1);
        x.deliver(0);
        Checks.due("message(0, 0)", x.message(0, 0), 2);
    }
}
