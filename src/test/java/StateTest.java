import java.util.List;

/** The section "State, lines and general rules", but for the general rules. */
public final class StateTest {
    private static final int NOW = RecoveryLine.NOW;

    private StateTest() {
    }

    public static void main(String[] args) {
        Checks.section("State");
        Checks.sentence("There are n processes, numbered 0 .. n-1.", StateTest::processesFromZero);
        Checks.sentence("a value (int; all arithmetic on values wraps as in Java)", StateTest::valuesWrap);
        Checks.sentence("an interval number (0 .. MAX_NUMBER)", StateTest::intervalNumbers);
        Checks.sentence("a flag: up or down", StateTest::upOrDown);
        Checks.sentence("a set of stored checkpoints, each with a number and a saved value.",
                StateTest::numberAndSavedValue);
        Checks.sentence("The numbers stored for one process are distinct and never greater than its interval number.",
                StateTest::numbersAreDistinct);
        Checks.sentence("At most c checkpoints are stored per process.", StateTest::atMostC);
        Checks.sentence("There are m message slots, numbered 0 .. m-1.", StateTest::slotsFromZero);
        Checks.sentence("A slot is EMPTY, or holds one message: its state (IN_TRANSIT or RECEIVED), sender, receiver, "
                + "payload (int)", StateTest::oneMessageASlot);
        Checks.sentence("send interval (the sender's interval number when it was sent)", StateTest::sendInterval);
        Checks.sentence("if RECEIVED, receive interval (the receiver's interval number when it was delivered)",
                StateTest::receiveInterval);
        Checks.section("Choices");
        Checks.sentence("D is the set of processes that are down now.", StateTest::thoseDownNow);
        Checks.sentence("For any set T of processes with D a subset of T, a CHOICE for T gives each process p one "
                + "component x[p], which is one of these:", StateTest::oneComponentEach);
        Checks.sentence("the number of a checkpoint of p stored now", StateTest::onlyWhatIsStored);
        Checks.sentence("only if p is not in T: \"now\", which counts as (interval number of p) + 1",
                StateTest::nowCountsOneMore);
        Checks.sentence("A process that is not in T may have either kind of component; a process in T must have a "
                + "checkpoint.", StateTest::kindsOfComponents);
        Checks.sentence("An event (a send or a receipt) of p in interval j is INCLUDED in the choice if j < x[p], and "
                + "is UNDONE by it otherwise.", StateTest::includedOrUndone);
        Checks.sentence("The interval of a message's sending is its send interval, as an event of its sender; the "
                + "interval of its receipt is its receive interval, as an event of its receiver.",
                StateTest::eachEndHasItsInterval);
        Checks.sentence("So checkpoint number i of p includes the events of p in intervals less than i and undoes "
                + "those in interval i and later.", StateTest::checkpointsAsEdges);
        Checks.sentence("A choice is CONSISTENT if for every RECEIVED message held in a slot: if its receipt is "
                + "included, then its sending is included too.", StateTest::everyMessageCounts);
        Checks.sentence("IN_TRANSIT messages, and messages no longer held in a slot, put no condition on a choice.",
                StateTest::messagesWithoutACondition);
        Checks.section("Lines");
        Checks.sentence("line(T) is the consistent choice for T that is greatest in every component at once.",
                StateTest::greatestOverGaps);
        Checks.sentence("It always exists and is unique: in every state that calls can lead to there is a consistent "
                + "choice, and the componentwise maximum of two consistent choices for T is a consistent choice for "
                + "T.", StateTest::everyStateHasItsLines);
        Checks.section("NEEDED");
        Checks.sentence("A stored checkpoint number i of p is NEEDED if there is a set T, with D a subset of T and T a "
                + "subset of all processes", StateTest::neededForSomeT);
        Checks.sentence("T = D and T = all processes are among them", StateTest::theOuterSetsCount);
        Checks.sentence("the component of p in line(T) is that checkpoint (not \"now\")", StateTest::nowNeedsNothing);
        Checks.section("SETTLED");
        Checks.sentence("A message is SETTLED if it is RECEIVED and its receipt is included in line(T) for every T "
                + "with D a subset of T and T a subset of all processes.", StateTest::settledForEveryT);
        Checks.sentence("An IN_TRANSIT message is never SETTLED.", StateTest::inTransitIsNeverSettled);
        Checks.finish();
    }

    private static void processesFromZero() {
        for (int n = 2; n <= 4; n++) {
            Calls x = new RealCalls(n, 3, 4);
            for (int p = -2; p <= 5; p++) {
                Checks.due("step(" + p + ", 1) of " + n, x.step(p, 1),
                        p >= 0 && p < n ? RecoveryLine.OK : RecoveryLine.BAD);
            }
        }
    }

    private static void slotsFromZero() {
        for (int m = 4; m <= 16; m++) {
            Calls x = new RealCalls(2, 3, m);
            Edges.fillSlots(x, 0, 1, m);
            for (int slot = -2; slot <= 17; slot++) {
                Checks.due("deliver(" + slot + ") of " + m, x.deliver(slot),
                        slot >= 0 && slot < m ? RecoveryLine.OK : RecoveryLine.BAD);
            }
        }
    }

    private static void valuesWrap() {
        int[] edges = {Integer.MIN_VALUE, Integer.MIN_VALUE + 1, -69273667, -69273666, 0, 69273666, 69273667,
            Integer.MAX_VALUE - 1, Integer.MAX_VALUE};
        for (int from : edges) {
            for (int by : edges) {
                Calls x = new RealCalls(2, 3, 4);
                Edges.setValue(x, 0, from);
                Edges.setValue(x, 1, by);
                Checks.due("value(0)", x.value(0), from);
                Edges.pass(x, 1, 0);
                Checks.due("value(0), from " + from + " by a message " + by, x.value(0), Edges.mixed(from, by));
                Edges.setValue(x, 0, from);
                x.step(0, by);
                Checks.due("value(0), from " + from + " by a step " + by, x.value(0), Edges.mixed(from, by));
            }
        }
    }

    private static void intervalNumbers() {
        Calls x = new RealCalls(2, 3, 4);
        for (int number = 0; number < 99; number++) {
            Checks.due("interval(1)", x.interval(1), number);
            x.checkpoint(1);
            x.reclaim();
        }
        Checks.due("interval(1)", x.interval(1), RecoveryLine.MAX_NUMBER);
        x.checkpoint(1);
        Checks.due("interval(1) after one more", x.interval(1), 99);
        Checks.due("interval(0)", x.interval(0), 0);
    }

    private static void upOrDown() {
        Calls x = new RealCalls(4, 3, 4);
        for (int p = 0; p < 4; p++) {
            x.crash(p);
            for (int q = 0; q < 4; q++) {
                Checks.due("isUp(" + q + ") with " + p + " down", x.isUp(q), q != p);
            }
            x.recover();
        }
    }

    private static void numberAndSavedValue() {
        Calls x = new RealCalls(4, 8, 4);
        for (int number = 1; number < 8; number++) {
            for (int p = 0; p < 4; p++) {
                Edges.setValue(x, p, 100 * p - number);
                x.checkpoint(p);
            }
        }
        for (int p = 0; p < 4; p++) {
            Checks.stored(x, p, 0, 1, 2, 3, 4, 5, 6, 7);
            Checks.due("savedValue(" + p + ", 0)", x.savedValue(p, 0), p + 1);
            for (int number = 1; number < 8; number++) {
                Checks.due("savedValue(" + p + ", " + number + ")", x.savedValue(p, number), 100 * p - number);
            }
        }
    }

    private static void numbersAreDistinct() {
        for (State state : State.all()) {
            Calls x = state.real();
            numbersRise(x, state, state.name());
            x.recover();
            numbersRise(x, state, state.name() + ", recovered");
            for (int p = 0; p < state.processes(); p++) {
                x.checkpoint(p);
            }
            numbersRise(x, state, state.name() + ", saved after that");
            x.reclaim();
            numbersRise(x, state, state.name() + ", reclaimed after that");
        }
    }

    private static void numbersRise(Calls x, State state, String when) {
        for (int p = 0; p < state.processes(); p++) {
            int last = -1;
            for (int k = 0; k < 9 && x.checkpointNumber(p, k) != RecoveryLine.NONE; k++) {
                Checks.due(when + ": number " + k + " of " + p + " is above " + last,
                        x.checkpointNumber(p, k) > last, true);
                last = x.checkpointNumber(p, k);
            }
            Checks.due(when + ": last number of " + p + " in bounds", last <= x.interval(p), true);
        }
    }

    private static void atMostC() {
        for (int c = 3; c <= 8; c++) {
            Calls x = new RealCalls(4, c, 4);
            for (int p = 0; p < 4; p++) {
                for (int i = 0; i < 10; i++) {
                    x.checkpoint(p);
                }
            }
            for (int p = 0; p < 4; p++) {
                Checks.due("c = " + c + ": the last of " + p, x.checkpointNumber(p, c - 1), c - 1);
                Checks.due("c = " + c + ": beyond the last of " + p, x.checkpointNumber(p, c), RecoveryLine.NONE);
                Checks.due("c = " + c + ": interval(" + p + ")", x.interval(p), c - 1);
            }
        }
    }

    private static void oneMessageASlot() {
        Calls x = new RealCalls(3, 3, 4);
        Edges.fillSlots(x, 0, 1, 4);
        x.deliver(2);
        x.send(1, 2);
        Checks.slotIs(x, 0, RecoveryLine.IN_TRANSIT, 0, 1, 1, 0, RecoveryLine.NONE);
        Checks.slotIs(x, 2, RecoveryLine.RECEIVED, 0, 1, 1, 0, 0);
        x.lose(3);
        x.send(1, 2);
        Checks.slotIs(x, 3, RecoveryLine.IN_TRANSIT, 1, 2, 63, 0, RecoveryLine.NONE);
    }

    private static void sendInterval() {
        Calls x = new RealCalls(2, 8, 8);
        for (int number = 0; number < 4; number++) {
            x.send(0, 1);
            x.checkpoint(0);
            x.checkpoint(1);
            x.checkpoint(1);
        }
        x.deliver(3);
        for (int slot = 0; slot < 4; slot++) {
            Checks.due("message(" + slot + ", 4)", x.message(slot, 4), slot);
        }
    }

    private static void receiveInterval() {
        Calls x = new RealCalls(2, 8, 8);
        Edges.fillSlots(x, 0, 1, 4);
        x.checkpoint(0);
        for (int slot = 0; slot < 4; slot++) {
            x.deliver(slot);
            x.checkpoint(1);
        }
        for (int slot = 0; slot < 4; slot++) {
            Checks.due("message(" + slot + ", 5)", x.message(slot, 5), slot);
        }
    }

    private static void thoseDownNow() {
        Calls x = new RealCalls(3, 3, 4);
        x.crash(0);
        Checks.lineIs(x, 0, 0, NOW, NOW);
        x.crash(2);
        Checks.lineIs(x, 0, 0, NOW, 0);
        x.recover();
        // Those that were down once are not down now.
        Checks.lineIs(x, 0, NOW, NOW, NOW);
        x.crash(1);
        Checks.lineIs(x, 0, NOW, 0, NOW);
        Checks.due("recover()", x.recover(), 2);
    }

    private static void oneComponentEach() {
        for (State state : State.all()) {
            for (int mask = 0; mask < 1 << state.processes(); mask++) {
                Calls x = state.real();
                for (int p = 0; p < state.processes(); p++) {
                    int component = x.probe(mask, p);
                    boolean stored = x.needed(p, component) != RecoveryLine.NONE;
                    Checks.due(state.name() + ": probe(" + mask + ", " + p + ") is a component, " + component,
                            stored || component == NOW, true);
                }
            }
        }
    }

    private static void onlyWhatIsStored() {
        Calls x = new RealCalls(2, 3, 4);
        x.checkpoint(0);
        Edges.pass(x, 0, 1);
        x.checkpoint(1);
        Checks.lineIs(x, 2, NOW, 1);
        x.crash(0);
        x.recover();
        // Recovery has taken checkpoint 1 of process 1 away.
        Checks.lineIs(x, 2, NOW, 0);
        x.checkpoint(1);
        Checks.lineIs(x, 2, NOW, 1);
    }

    private static void nowCountsOneMore() {
        for (int raised : new int[] {0, 1, 98, 99}) {
            Calls x = new RealCalls(2, 3, 4);
            Edges.raise(x, 0, raised);
            Edges.raise(x, 1, raised);
            Edges.pass(x, 0, 1);
            // "Now" of 0 includes the sending in its newest interval; its checkpoint does not.
            Checks.lineIs(x, 0, NOW, NOW);
            Checks.lineIs(x, 2, NOW, raised);
            Checks.lineIs(x, 1, raised, raised);
        }
    }

    private static void kindsOfComponents() {
        Calls x = new RealCalls(4, 3, 4);
        x.checkpoint(0);
        Edges.pass(x, 0, 1);
        for (int mask = 0; mask < 16; mask++) {
            for (int p = 0; p < 4; p++) {
                boolean falls = (mask >> p & 1) != 0 || p == 1 && (mask & 1) != 0;
                Checks.due("probe(" + mask + ", " + p + ")", x.probe(mask, p), !falls ? NOW : p == 0 ? 1 : 0);
            }
        }
    }

    /** Process 0 saves before and after it sends, process 1 before and after it receives. */
    private static Calls oneMessage(int sendInterval, int receiveInterval) {
        Calls x = new RealCalls(2, 8, 4);
        for (int i = 0; i < sendInterval; i++) {
            x.checkpoint(0);
        }
        for (int i = 0; i < receiveInterval; i++) {
            x.checkpoint(1);
        }
        Edges.pass(x, 0, 1);
        return x;
    }

    private static void includedOrUndone() {
        for (int j = 0; j < 4; j++) {
            // The newest checkpoint j of 0 undoes a sending in interval j; one saved later includes it.
            Calls x = oneMessage(j, 3);
            Checks.lineIs(x, 1, j, 3);
            x.checkpoint(0);
            Checks.lineIs(x, 1, j + 1, NOW);
        }
        for (int j = 0; j < 4; j++) {
            // Checkpoint j + 1 of 1 includes a receipt in interval j, so 1 must fall back to j.
            Calls x = oneMessage(3, j);
            Checks.lineIs(x, 1, 3, j);
            x.checkpoint(1);
            Checks.lineIs(x, 1, 3, j);
            x.checkpoint(1);
            Checks.lineIs(x, 3, 3, j);
        }
    }

    private static void eachEndHasItsInterval() {
        for (int sent = 0; sent < 5; sent++) {
            for (int received = 0; received < 5; received++) {
                Calls x = oneMessage(sent, received);
                Checks.lineIs(x, 1, sent, received);
                x.checkpoint(1);
                Checks.lineIs(x, 1, sent, received);
                Checks.lineIs(x, 2, NOW, received + 1);
                x.checkpoint(0);
                Checks.lineIs(x, 1, sent + 1, NOW);
                Checks.lineIs(x, 3, sent + 1, received + 1);
            }
        }
    }

    private static void checkpointsAsEdges() {
        Calls x = new RealCalls(2, 8, 8);
        for (int number = 1; number <= 4; number++) {
            x.send(0, 1);
            x.checkpoint(0);
        }
        x.send(0, 1);
        x.crash(0);
        Checks.due("recover()", x.recover(), 1);
        // Checkpoint 4 includes the sendings in intervals 0 to 3 and undoes the one in 4.
        for (int slot = 0; slot < 4; slot++) {
            Checks.due("message(" + slot + ", 4)", x.message(slot, 4), slot);
        }
        Checks.slotIsEmpty(x, 4);
        for (int slot = 0; slot < 4; slot++) {
            x.deliver(slot);
            if (slot < 2) {
                x.checkpoint(1);
            }
        }
        x.crash(1);
        Checks.due("recover()", x.recover(), 2);
        // Checkpoint 2 includes the receipts in intervals 0 and 1 and undoes those in 2.
        Checks.slotIs(x, 0, RecoveryLine.RECEIVED, 0, 1, 1, 0, 0);
        Checks.slotIs(x, 1, RecoveryLine.RECEIVED, 0, 1, 1, 1, 1);
        Checks.slotIs(x, 2, RecoveryLine.IN_TRANSIT, 0, 1, 1, 2, RecoveryLine.NONE);
        Checks.slotIs(x, 3, RecoveryLine.IN_TRANSIT, 0, 1, 1, 3, RecoveryLine.NONE);
    }

    private static void everyMessageCounts() {
        for (int m = 4; m <= 16; m++) {
            for (int slot = 0; slot < m; slot++) {
                Calls x = new RealCalls(2, 3, m);
                Edges.fillSlots(x, 0, 1, m);
                Checks.lineIs(x, 1, 0, NOW);
                x.deliver(slot);
                Checks.lineIs(x, 1, 0, 0);
            }
        }
    }

    private static void messagesWithoutACondition() {
        Calls inTransit = new RealCalls(2, 3, 4);
        inTransit.send(0, 1);
        Checks.lineIs(inTransit, 1, 0, NOW);
        inTransit.lose(0);
        Checks.lineIs(inTransit, 1, 0, NOW);
        // Of the message that is in transit again, the first receipt counts no more.
        Calls again = new RealCalls(2, 3, 4);
        Edges.pass(again, 0, 1);
        again.crash(1);
        Checks.due("recover()", again.recover(), 2);
        Checks.lineIs(again, 1, 0, NOW);
        again.lose(0);
        Checks.lineIs(again, 1, 0, NOW);
        // Nor does a message count whose slot was emptied by recovery or by reclaiming.
        Calls emptied = new RealCalls(2, 3, 4);
        Edges.pass(emptied, 0, 1);
        emptied.crash(0);
        Checks.due("recover()", emptied.recover(), 3);
        Checks.slotIsEmpty(emptied, 0);
        Checks.lineIs(emptied, 1, 0, NOW);
        Edges.pass(emptied, 0, 1);
        emptied.checkpoint(0);
        emptied.checkpoint(1);
        Checks.due("reclaim()", emptied.reclaim(), 201);
        Checks.lineIs(emptied, 1, 1, NOW);
        Checks.lineIs(emptied, 2, NOW, 1);
    }

    private static void greatestOverGaps() {
        Calls x = new RealCalls(2, 4, 8);
        x.checkpoint(1);
        Edges.pass(x, 0, 1);
        x.checkpoint(1);
        Edges.pass(x, 1, 0);
        Checks.due("reclaim()", x.reclaim(), 200);
        Checks.stored(x, 1, 1);
        x.checkpoint(0);
        Checks.lineIs(x, 1, 1, NOW);
        Checks.lineIs(x, 2, 0, 1);
        // A receipt in interval 2, whose own checkpoint is gone: back to checkpoint 1, and 0 with it.
        Edges.pass(x, 0, 1);
        Checks.lineIs(x, 1, 0, 1);
        x.checkpoint(1);
        Checks.lineIs(x, 2, NOW, 3);
        Checks.lineIs(x, 1, 0, 1);
    }

    private static void everyStateHasItsLines() {
        for (State state : State.all()) {
            Calls x = state.real();
            hasItsLines(x, state.name());
            x.reclaim();
            hasItsLines(x, state.name() + ", reclaimed");
            x.recover();
            hasItsLines(x, state.name() + ", recovered");
        }
    }

    private static void hasItsLines(Calls x, String when) {
        Choices choices = Choices.of(x);
        for (int set : choices.sets()) {
            List<int[]> consistent = choices.consistent(set);
            Checks.due(when + ": a consistent choice for " + set, consistent.size() > 0, true);
            int[] greatest = consistent.get(0);
            for (int[] choice : consistent) {
                greatest = Choices.maximum(greatest, choice);
                maximaAreConsistent(choices, choice, consistent);
            }
            for (int p = 0; p < choices.processes(); p++) {
                Checks.due(when + ": probe(" + set + ", " + p + ")", x.probe(set, p),
                        greatest[p] == choices.now(p) ? NOW : greatest[p]);
            }
        }
    }

    private static void maximaAreConsistent(Choices choices, int[] choice, List<int[]> others) {
        for (int[] other : others) {
            Checks.due("the maximum is consistent", choices.isConsistent(Choices.maximum(choice, other)), true);
        }
    }

    private static void neededForSomeT() {
        for (State state : State.all()) {
            Calls x = state.real();
            Choices choices = Choices.of(x);
            for (int p = 0; p < choices.processes(); p++) {
                for (int k = 0; k < 8 && x.checkpointNumber(p, k) != RecoveryLine.NONE; k++) {
                    int number = x.checkpointNumber(p, k);
                    Checks.due(state.name() + ": needed(" + p + ", " + number + ")", x.needed(p, number),
                            choices.isNeeded(p, number) ? 1 : 0);
                }
            }
        }
    }

    /** Process 0 is down; what 1 sent to it in its newest interval lies before checkpoint 1 of 0. */
    private static Calls leaningOnAnother() {
        Calls x = new RealCalls(2, 3, 4);
        Edges.pass(x, 1, 0);
        x.checkpoint(0);
        x.crash(0);
        return x;
    }

    private static void theOuterSetsCount() {
        Calls x = leaningOnAnother();
        Checks.lineIs(x, 0, 1, NOW);
        Checks.lineIs(x, 2, 0, 0);
        Checks.due("needed(0, 1), by T = D alone", x.needed(0, 1), 1);
        Checks.due("needed(0, 0), by T = all alone", x.needed(0, 0), 1);
        Checks.due("needed(1, 0), by T = all alone", x.needed(1, 0), 1);
        x.crash(1);
        Checks.due("needed(0, 1), T = D = all", x.needed(0, 1), 0);
        Checks.due("needed(0, 0), T = D = all", x.needed(0, 0), 1);
        Checks.due("needed(1, 0), T = D = all", x.needed(1, 0), 1);
    }

    private static void nowNeedsNothing() {
        Calls x = new RealCalls(2, 4, 8);
        x.checkpoint(1);
        Edges.pass(x, 0, 1);
        x.checkpoint(1);
        Edges.pass(x, 1, 0);
        // The newest checkpoint of 1 is no component of any line, though "now" of 1 lies above it.
        Checks.lineIs(x, 0, NOW, NOW);
        Checks.due("needed(1, 2)", x.needed(1, 2), 0);
        Checks.due("needed(1, 1)", x.needed(1, 1), 1);
    }

    private static void settledForEveryT() {
        for (State state : State.all()) {
            Calls x = state.real();
            Choices choices = Choices.of(x);
            x.reclaim();
            for (int slot = 0; slot < state.slots(); slot++) {
                boolean held = state.real().message(slot, 0) != RecoveryLine.EMPTY && !choices.isSettled(slot);
                Checks.due(state.name() + ": slot " + slot + " holds a message after reclaim()",
                        x.message(slot, 0) != RecoveryLine.EMPTY, held);
            }
        }
        oneSavesAfterTheOther();
    }

    private static void oneSavesAfterTheOther() {
        Calls x = leaningOnAnother();
        // Included in line(D), undone in line(all): not settled.
        Checks.keepsAll(x, "reclaim()", x::reclaim, 0);
        x.checkpoint(1);
        Checks.due("reclaim() after the sender saved", x.reclaim(), 201);
        // In an interval that no checkpoint of the receiver includes yet, it is not settled either.
        Calls y = new RealCalls(3, 3, 4);
        Edges.pass(y, 0, 1);
        y.checkpoint(0);
        Checks.due("reclaim() before the receiver saves", y.reclaim(), 100);
        Checks.due("message(0, 0)", y.message(0, 0), RecoveryLine.RECEIVED);
        y.checkpoint(1);
        Checks.due("reclaim() after the receiver saved", y.reclaim(), 101);
        Checks.slotIsEmpty(y, 0);
    }

    private static void inTransitIsNeverSettled() {
        Calls x = new RealCalls(2, 3, 4);
        x.send(0, 1);
        x.checkpoint(0);
        x.checkpoint(1);
        Checks.due("reclaim()", x.reclaim(), 200);
        Checks.slotIs(x, 0, RecoveryLine.IN_TRANSIT, 0, 1, 1, 0, RecoveryLine.NONE);
        // Received once, in an interval that every line would include, and undone since.
        Calls y = new RealCalls(2, 4, 4);
        Edges.pass(y, 0, 1);
        y.checkpoint(0);
        y.crash(1);
        Checks.due("recover()", y.recover(), 2);
        y.checkpoint(1);
        Checks.due("reclaim()", y.reclaim(), 200);
        Checks.slotIs(y, 0, RecoveryLine.IN_TRANSIT, 0, 1, 1, 0, RecoveryLine.NONE);
    }
}
