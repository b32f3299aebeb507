/** Promises 6, 15 and 16: saving a checkpoint, and looking at the stored ones. */
public final class CheckpointsTest {
    private CheckpointsTest() {
    }

    public static void main(String[] args) {
        Checks.section("Promise 6");
        Checks.sentence("checkpoint(p): p saves its state.", CheckpointsTest::saveAndComeBack);
        Checks.sentence("p is bad: BAD.", CheckpointsTest::saveOfABadProcess);
        Checks.sentence("p is down: DOWN.", CheckpointsTest::saveWhileDown);
        Checks.sentence("The interval number of p is MAX_NUMBER: LIMIT.", CheckpointsTest::saveAtTheLimit);
        Checks.sentence("(This comes before the next condition, so it is also the answer if both hold.)",
                CheckpointsTest::limitBeforeFull);
        Checks.sentence("p has c stored checkpoints: FULL.", CheckpointsTest::saveWithoutRoom);
        Checks.sentence("Otherwise the interval number of p grows by 1, and a checkpoint of p with that new number "
                + "and with the value of p as saved value is stored.", CheckpointsTest::saveStoresTheValue);
        Checks.sentence("Answers the new number.", CheckpointsTest::saveAnswersTheNumber);
        Checks.sentence("The value of p, the older checkpoints, the slots and the other processes stay.",
                CheckpointsTest::saveChangesNothingElse);
        Checks.section("Promise 15");
        Checks.sentence("p is bad: BAD.", CheckpointsTest::numberOfABadProcess);
        Checks.sentence("k < 0 or k >= (how many checkpoints p has stored): NONE.", CheckpointsTest::numberBeyond);
        Checks.sentence("Otherwise the k-th least number among the stored checkpoints of p, k = 0 being the least.",
                CheckpointsTest::numbersByRank);
        Checks.sentence("It answers in the same way whether p is up or down.", CheckpointsTest::numbersWhileDown);
        Checks.sentence("Nothing changes.", CheckpointsTest::numbersChangeNothing);
        Checks.section("Promise 16");
        Checks.sentence("the saved value of the checkpoint of p with that number", CheckpointsTest::savedValueByNumber);
        Checks.sentence("0 if p is bad or no such checkpoint is stored, for any int number",
                CheckpointsTest::savedValueOfNothing);
        Checks.sentence("A saved value may be any int, 0 included.", CheckpointsTest::savedValueMayBeAnyInt);
        Checks.sentence("It answers in the same way whether p is up or down.", CheckpointsTest::savedValueWhileDown);
        Checks.sentence("Nothing changes.", CheckpointsTest::savedValueChangesNothing);
        Checks.section("Not promised");
        Checks.sentence("of removed checkpoints", CheckpointsTest::nothingShowsOfRemovedCheckpoints);
        Checks.finish();
    }

    private static void saveAndComeBack() {
        for (int p = 0; p < 4; p++) {
            Calls x = new RealCalls(4, 3, 4);
            x.step(p, 1000);
            int value = x.value(p);
            x.checkpoint(p);
            x.step(p, 1);
            x.crash(p);
            x.recover();
            Checks.due("value(" + p + ")", x.value(p), value);
            Checks.due("interval(" + p + ")", x.interval(p), 1);
        }
    }

    private static void saveOfABadProcess() {
        for (int n = 2; n <= 4; n++) {
            Calls x = new RealCalls(n, 3, 4);
            for (int p : Edges.badOf(n)) {
                Checks.keepsAll(x, "checkpoint(" + p + ")", () -> x.checkpoint(p), RecoveryLine.BAD);
            }
        }
    }

    private static void saveWhileDown() {
        for (int p = 0; p < 4; p++) {
            int down = p;
            Calls x = new RealCalls(4, 3, 4);
            x.crash(p);
            Checks.keepsAll(x, "checkpoint(" + p + ") while down", () -> x.checkpoint(down), RecoveryLine.DOWN);
            x.recover();
            Checks.due("checkpoint(" + p + ") up again", x.checkpoint(p), 1);
        }
    }

    private static void saveAtTheLimit() {
        for (int p = 0; p < 2; p++) {
            int raised = p;
            Calls x = new RealCalls(2, 3, 4);
            Edges.raise(x, p, 98);
            Checks.due("checkpoint(" + p + ") below the limit", x.checkpoint(p), 99);
            Checks.keepsAll(x, "checkpoint(" + p + ") at 99", () -> x.checkpoint(raised), RecoveryLine.LIMIT);
            x.reclaim();
            Checks.keepsAll(x, "checkpoint(" + p + ") at 99, one stored", () -> x.checkpoint(raised),
                    RecoveryLine.LIMIT);
            Checks.due("checkpoint of the other", x.checkpoint(1 - p), 1);
            x.crash(p);
            x.recover();
            Checks.due("checkpoint(" + p + ") recovered at 99", x.checkpoint(p), RecoveryLine.LIMIT);
        }
        // Falling back below the limit gives numbers again.
        Calls x = new RealCalls(2, 3, 4);
        Edges.raise(x, 1, 98);
        Edges.pass(x, 0, 1);
        Checks.due("checkpoint(1)", x.checkpoint(1), 99);
        x.crash(0);
        Checks.due("recover()", x.recover(), 3);
        Checks.due("interval(1)", x.interval(1), 98);
        Checks.due("checkpoint(1) once more", x.checkpoint(1), 99);
        Checks.due("checkpoint(1) at the limit again", x.checkpoint(1), RecoveryLine.LIMIT);
    }

    private static void limitBeforeFull() {
        for (int c = 3; c <= 8; c++) {
            Calls x = new RealCalls(2, c, 4);
            Edges.raise(x, 1, 100 - c);
            for (int number = 101 - c; number <= 99; number++) {
                Checks.due("checkpoint(1)", x.checkpoint(1), number);
            }
            Checks.due("the last one stored", x.checkpointNumber(1, c - 1), 99);
            Checks.keepsAll(x, "checkpoint(1) at 99 and full", () -> x.checkpoint(1), RecoveryLine.LIMIT);
            Calls y = new RealCalls(2, c, 4);
            Edges.raise(y, 1, 99 - c);
            for (int number = 100 - c; number <= 98; number++) {
                y.checkpoint(1);
            }
            Checks.keepsAll(y, "checkpoint(1) at 98 and full", () -> y.checkpoint(1), RecoveryLine.FULL);
        }
    }

    private static void saveWithoutRoom() {
        for (int c = 3; c <= 8; c++) {
            Calls x = new RealCalls(4, c, 4);
            for (int p = 0; p < 4; p++) {
                int full = p;
                for (int number = 1; number < c; number++) {
                    Checks.due("checkpoint(" + p + ") of " + c, x.checkpoint(p), number);
                }
                Checks.keepsAll(x, "checkpoint(" + p + ") beyond " + c, () -> x.checkpoint(full), RecoveryLine.FULL);
            }
            Checks.due("reclaim()", x.reclaim(), 400 * (c - 1));
            Checks.due("checkpoint(2) with room again", x.checkpoint(2), c);
        }
    }

    private static void saveStoresTheValue() {
        Calls x = new RealCalls(3, 3, 4);
        x.step(0, 9);
        x.checkpoint(0);
        Checks.due("interval(0)", x.interval(0), 1);
        Checks.stored(x, 0, 0, 1);
        Checks.due("savedValue(0, 1)", x.savedValue(0, 1), 40);
        x.step(0, 0);
        Checks.due("savedValue(0, 1) after a step", x.savedValue(0, 1), 40);
        x.checkpoint(0);
        Checks.due("savedValue(0, 2)", x.savedValue(0, 2), 1240);
        Edges.raise(x, 0, 99);
        Checks.stored(x, 0, 99);
        Checks.due("savedValue(0, 99)", x.savedValue(0, 99), 1240);
    }

    private static void saveAnswersTheNumber() {
        Calls x = new RealCalls(2, 3, 4);
        for (int number = 1; number <= 99; number++) {
            Checks.due("checkpoint(0)", x.checkpoint(0), number);
            Checks.due("interval(0)", x.interval(0), number);
            x.reclaim();
        }
        // The interval number counts, not the newest stored one.
        Calls y = new RealCalls(2, 4, 8);
        y.checkpoint(1);
        Edges.pass(y, 0, 1);
        y.checkpoint(1);
        Edges.pass(y, 1, 0);
        y.reclaim();
        Checks.stored(y, 1, 1);
        Checks.due("checkpoint(1)", y.checkpoint(1), 3);
    }

    private static void saveChangesNothingElse() {
        Calls x = new RealCalls(3, 3, 4);
        x.send(0, 1);
        Edges.pass(x, 1, 0);
        x.step(0, 9);
        Checks.changes(x, "checkpoint(0)", () -> x.checkpoint(0), 1,
                "interval(0)", "checkpointNumber(0, 1)", "savedValue(0, 1)");
        Checks.changes(x, "checkpoint(0)", () -> x.checkpoint(0), 2,
                "interval(0)", "checkpointNumber(0, 2)", "savedValue(0, 2)");
    }

    private static void numberOfABadProcess() {
        for (int n = 2; n <= 4; n++) {
            Calls x = new RealCalls(n, 3, 4);
            for (int p : Edges.badOf(n)) {
                for (int k : Edges.ints()) {
                    Checks.due("checkpointNumber(" + p + ", " + k + ")", x.checkpointNumber(p, k), RecoveryLine.BAD);
                }
            }
        }
    }

    private static void numberBeyond() {
        Calls x = new RealCalls(3, 8, 4);
        for (int count = 1; count <= 8; count++) {
            for (int k : Edges.badOf(count)) {
                Checks.due("checkpointNumber(1, " + k + ") of " + count, x.checkpointNumber(1, k), RecoveryLine.NONE);
            }
            Checks.due("checkpointNumber(1, last)", x.checkpointNumber(1, count - 1), count - 1);
            x.checkpoint(1);
        }
        // Its neighbours store one each, whatever process 1 has.
        Checks.stored(x, 0, 0);
        Checks.stored(x, 2, 0);
    }

    private static Calls withGaps() {
        Calls x = new RealCalls(3, 8, 4);
        x.checkpoint(0);
        x.checkpoint(0);
        // The message ties checkpoint 2 of process 0 to checkpoint 0 of process 1.
        Edges.pass(x, 0, 1);
        x.checkpoint(1);
        x.checkpoint(1);
        x.checkpoint(1);
        Checks.due("reclaim()", x.reclaim(), 400);
        return x;
    }

    private static void numbersByRank() {
        Calls x = withGaps();
        Checks.stored(x, 0, 2);
        Checks.stored(x, 1, 0, 3);
        Checks.stored(x, 2, 0);
        x.checkpoint(1);
        x.checkpoint(0);
        Checks.stored(x, 0, 2, 3);
        Checks.stored(x, 1, 0, 3, 4);
    }

    private static void numbersWhileDown() {
        Calls x = withGaps();
        for (int p = 0; p < 3; p++) {
            x.crash(p);
        }
        Checks.stored(x, 0, 2);
        Checks.stored(x, 1, 0, 3);
        Checks.stored(x, 2, 0);
        Checks.due("checkpointNumber(1, -1)", x.checkpointNumber(1, -1), RecoveryLine.NONE);
        Checks.due("checkpointNumber(3, 0)", x.checkpointNumber(3, 0), RecoveryLine.BAD);
    }

    private static void numbersChangeNothing() {
        Calls x = withGaps();
        Checks.keepsAll(x, "checkpointNumber(1, 1)", () -> x.checkpointNumber(1, 1), 3);
        Checks.keepsAll(x, "checkpointNumber(1, 2)", () -> x.checkpointNumber(1, 2), RecoveryLine.NONE);
        Checks.keepsAll(x, "checkpointNumber(1, -1)", () -> x.checkpointNumber(1, -1), RecoveryLine.NONE);
        Checks.keepsAll(x, "checkpointNumber(3, 0)", () -> x.checkpointNumber(3, 0), RecoveryLine.BAD);
    }

    private static void savedValueByNumber() {
        Calls x = withGaps();
        x.step(1, 4);
        x.checkpoint(1);
        // By number, not by rank: checkpoint 3 of process 1 is its second, checkpoint 4 its third.
        Checks.stored(x, 1, 0, 3, 4);
        Checks.due("savedValue(1, 0)", x.savedValue(1, 0), 2);
        Checks.due("savedValue(1, 3)", x.savedValue(1, 3), 63);
        Checks.due("savedValue(1, 4)", x.savedValue(1, 4), 1957);
        Checks.due("savedValue(0, 2)", x.savedValue(0, 2), 1);
        Checks.due("savedValue(2, 0)", x.savedValue(2, 0), 3);
    }

    private static void savedValueOfNothing() {
        for (int n = 2; n <= 4; n++) {
            Calls x = new RealCalls(n, 3, 4);
            for (int number : Edges.ints()) {
                for (int p : Edges.badOf(n)) {
                    Checks.due("savedValue(" + p + ", " + number + ")", x.savedValue(p, number), 0);
                }
                for (int p = 0; p < n; p++) {
                    Checks.due("savedValue(" + p + ", " + number + ")", x.savedValue(p, number),
                            number == 0 ? p + 1 : 0);
                }
            }
        }
    }

    private static void savedValueMayBeAnyInt() {
        for (int value : Edges.ints()) {
            Calls x = new RealCalls(3, 3, 4);
            for (int p = 0; p < 3; p++) {
                Edges.setValue(x, p, value);
                x.checkpoint(p);
                x.step(p, 1);
                Checks.due("savedValue(" + p + ", 1)", x.savedValue(p, 1), value);
                Checks.due("savedValue(" + p + ", 0)", x.savedValue(p, 0), p + 1);
            }
        }
    }

    private static void savedValueWhileDown() {
        Calls x = new RealCalls(2, 3, 4);
        x.step(1, -62);
        x.checkpoint(1);
        x.step(1, -5);
        x.checkpoint(1);
        x.crash(0);
        x.crash(1);
        Checks.due("savedValue(0, 0)", x.savedValue(0, 0), 1);
        Checks.due("savedValue(1, 0)", x.savedValue(1, 0), 2);
        Checks.due("savedValue(1, 1)", x.savedValue(1, 1), 0);
        Checks.due("savedValue(1, 2)", x.savedValue(1, 2), -5);
        Checks.due("savedValue(1, 3)", x.savedValue(1, 3), 0);
    }

    private static void savedValueChangesNothing() {
        Calls x = withGaps();
        Checks.keepsAll(x, "savedValue(1, 0)", () -> x.savedValue(1, 0), 2);
        Checks.keepsAll(x, "savedValue(1, 1)", () -> x.savedValue(1, 1), 0);
        Checks.keepsAll(x, "savedValue(3, 0)", () -> x.savedValue(3, 0), 0);
    }

    private static void nothingShowsOfRemovedCheckpoints() {
        Calls x = withGaps();
        for (int removed = 1; removed <= 2; removed++) {
            Checks.due("savedValue(1, " + removed + ")", x.savedValue(1, removed), 0);
            Checks.due("needed(1, " + removed + ")", x.needed(1, removed), RecoveryLine.NONE);
        }
        // Recovery takes checkpoint 3 away; the number comes again with another value.
        x.crash(0);
        Checks.due("recover()", x.recover(), 3);
        Checks.stored(x, 1, 0);
        Checks.due("savedValue(1, 3)", x.savedValue(1, 3), 0);
        x.step(1, 7);
        for (int number = 1; number <= 3; number++) {
            Checks.due("checkpoint(1)", x.checkpoint(1), number);
            Checks.due("savedValue(1, " + number + ")", x.savedValue(1, number), 69);
        }
    }
}
