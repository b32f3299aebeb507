import java.util.List;
import java.util.Set;

/** Promises 2, 7, 12, 13 and 14: local work, crashing, and looking at a process. */
public final class ProcessesTest {
    private ProcessesTest() {
    }

    public static void main(String[] args) {
        Checks.section("Promise 2");
        Checks.sentence("p is bad: BAD.", ProcessesTest::stepOfABadProcess);
        Checks.sentence("p is down: DOWN.", ProcessesTest::stepWhileDown);
        Checks.sentence("Otherwise the value of p becomes 31 * value + x, with int wrap-around, for any int x; "
                + "answers OK.", ProcessesTest::stepByAnyInt);
        Checks.sentence("Nothing else changes: interval numbers, checkpoints, slots and other processes stay.",
                ProcessesTest::stepChangesNothingElse);
        Checks.section("Promise 7");
        Checks.sentence("p is bad: BAD.", ProcessesTest::crashOfABadProcess);
        Checks.sentence("p is down: DOWN.", ProcessesTest::crashWhileDown);
        Checks.sentence("Otherwise p becomes down and its value is lost; answers OK.",
                ProcessesTest::crashLosesTheValue);
        Checks.sentence("The interval number of p, its checkpoints and all messages stay as they are.",
                ProcessesTest::crashKeepsTheRest);
        Checks.sentence("The other processes are unaffected and may go on.", ProcessesTest::othersGoOn);
        Checks.sentence("All processes may be down at once.", ProcessesTest::allMayBeDown);
        Checks.section("Promise 12");
        Checks.sentence("is a getter: the value of p; 0 if p is bad or p is down", ProcessesTest::valueOfNobody);
        Checks.sentence("The value of a process that is up may be any int, 0 included.",
                ProcessesTest::valueMayBeAnyInt);
        Checks.sentence("Nothing changes.", ProcessesTest::valueChangesNothing);
        Checks.section("Promise 13");
        Checks.sentence("the interval number of p, also while p is down", ProcessesTest::intervalWhileDown);
        Checks.sentence("BAD if p is bad", ProcessesTest::intervalOfABadProcess);
        Checks.sentence("Nothing changes.", ProcessesTest::intervalChangesNothing);
        Checks.section("Promise 14");
        Checks.sentence("true if p is not bad and p is up; false otherwise", ProcessesTest::upOrNot);
        Checks.sentence("Nothing changes.", ProcessesTest::isUpChangesNothing);
        Checks.section("Not promised");
        Checks.sentence("whatever is left inside of the lost value of a process that is down",
                ProcessesTest::nothingShowsOfTheLostValue);
        Checks.finish();
    }

    private static void stepOfABadProcess() {
        for (int n = 2; n <= 4; n++) {
            Calls x = new RealCalls(n, 3, 4);
            for (int p : Edges.badOf(n)) {
                Checks.keepsAll(x, "step(" + p + ", 1)", () -> x.step(p, 1), RecoveryLine.BAD);
            }
        }
    }

    private static void stepWhileDown() {
        for (int p = 0; p < 3; p++) {
            int down = p;
            Calls x = new RealCalls(3, 3, 4);
            x.crash(p);
            for (int by : Edges.ints()) {
                Checks.keepsAll(x, "step(" + p + ", " + by + ") while down", () -> x.step(down, by), RecoveryLine.DOWN);
            }
            x.recover();
            Checks.due("value(" + p + ") up again", x.value(p), p + 1);
            Checks.due("step(" + p + ", 1) up again", x.step(p, 1), RecoveryLine.OK);
        }
    }

    private static void stepByAnyInt() {
        for (int from : Edges.ints()) {
            for (int by : Edges.ints()) {
                Calls x = new RealCalls(2, 3, 4);
                Edges.setValue(x, 1, from);
                Checks.due("step(1, " + by + ")", x.step(1, by), RecoveryLine.OK);
                Checks.due("value(1) from " + from + " by " + by, x.value(1), Edges.mixed(from, by));
            }
        }
        Calls x = new RealCalls(2, 3, 4);
        x.step(0, Integer.MAX_VALUE - 31);
        Checks.due("value(0) at the greatest int", x.value(0), Integer.MAX_VALUE);
        x.step(0, 0);
        Checks.due("value(0) wraps", x.value(0), 2147483617);
        x.step(0, 31);
        Checks.due("value(0) wraps by the addition", x.value(0), 2147482718);
        x.step(1, Integer.MAX_VALUE - 61);
        Checks.due("value(1) wraps to the least int", x.value(1), Integer.MIN_VALUE);
    }

    private static void stepChangesNothingElse() {
        Calls x = new RealCalls(3, 3, 4);
        x.send(1, 2);
        x.checkpoint(1);
        Checks.changes(x, "step(1, 7)", () -> x.step(1, 7), RecoveryLine.OK, "value(1)");
        Checks.due("value(1)", x.value(1), 69);
        Checks.changes(x, "step(1, -70)", () -> x.step(1, -70), RecoveryLine.OK, "value(1)");
        Checks.due("value(1)", x.value(1), 2069);
        // A step may also leave the value as it is.
        Checks.keepsAll(x, "step(1, -62070)", () -> x.step(1, -62070), RecoveryLine.OK);
    }

    private static void crashOfABadProcess() {
        for (int n = 2; n <= 4; n++) {
            Calls x = new RealCalls(n, 3, 4);
            for (int p : Edges.badOf(n)) {
                Checks.keepsAll(x, "crash(" + p + ")", () -> x.crash(p), RecoveryLine.BAD);
            }
        }
    }

    private static void crashWhileDown() {
        for (int p = 0; p < 4; p++) {
            int down = p;
            Calls x = new RealCalls(4, 3, 4);
            x.crash(p);
            Checks.keepsAll(x, "crash(" + p + ") again", () -> x.crash(down), RecoveryLine.DOWN);
            x.recover();
            Checks.due("crash(" + p + ") up again", x.crash(p), RecoveryLine.OK);
        }
    }

    private static void crashLosesTheValue() {
        for (int p = 0; p < 4; p++) {
            int crashed = p;
            Calls x = new RealCalls(4, 3, 4);
            x.step(p, 1000);
            Checks.changes(x, "crash(" + p + ")", () -> x.crash(crashed), RecoveryLine.OK,
                    "value(" + p + ")", "isUp(" + p + ")");
            Checks.due("value(" + p + ") while down", x.value(p), 0);
            Checks.due("recover()", x.recover(), 1 << p);
            Checks.due("value(" + p + ") up again", x.value(p), p + 1);
        }
    }

    private static void crashKeepsTheRest() {
        Calls x = new RealCalls(3, 3, 4);
        x.checkpoint(1);
        x.send(1, 2);
        Edges.pass(x, 2, 1);
        Edges.pass(x, 1, 0);
        x.step(1, 9);
        x.checkpoint(1);
        Checks.changes(x, "crash(1)", () -> x.crash(1), RecoveryLine.OK, "value(1)", "isUp(1)");
        Checks.due("interval(1) while down", x.interval(1), 2);
        Checks.stored(x, 1, 0, 1, 2);
        Checks.slotIs(x, 0, RecoveryLine.IN_TRANSIT, 1, 2, 2, 1, RecoveryLine.NONE);
        Checks.slotIs(x, 1, RecoveryLine.RECEIVED, 2, 1, 3, 0, 1);
    }

    private static void othersGoOn() {
        Calls x = new RealCalls(3, 3, 4);
        x.crash(0);
        Checks.due("step(1, 0)", x.step(1, 0), RecoveryLine.OK);
        Checks.due("send(1, 2)", x.send(1, 2), 0);
        Checks.due("deliver(0)", x.deliver(0), RecoveryLine.OK);
        Checks.due("checkpoint(2)", x.checkpoint(2), 1);
        Checks.due("crash(1)", x.crash(1), RecoveryLine.OK);
        Checks.due("step(2, 5)", x.step(2, 5), RecoveryLine.OK);
        Checks.due("value(2)", x.value(2), Edges.mixed(Edges.mixed(3, 62), 5));
    }

    private static void allMayBeDown() {
        for (int n = 2; n <= 4; n++) {
            Calls x = new RealCalls(n, 3, 4);
            for (int p = n - 1; p >= 0; p--) {
                Checks.due("crash(" + p + ")", x.crash(p), RecoveryLine.OK);
            }
            for (int p = 0; p < n; p++) {
                Checks.due("isUp(" + p + ")", x.isUp(p), false);
                Checks.due("value(" + p + ")", x.value(p), 0);
                Checks.due("probe(0, " + p + ")", x.probe(0, p), 0);
            }
            Checks.due("reclaim() of all", x.reclaim(), 0);
            Checks.due("recover() of all", x.recover(), (1 << n) - 1);
        }
    }

    private static void valueOfNobody() {
        for (int n = 2; n <= 4; n++) {
            Calls x = new RealCalls(n, 3, 4);
            for (int p : Edges.badOf(n)) {
                Checks.due("value(" + p + ")", x.value(p), 0);
            }
            for (int p = 0; p < n; p++) {
                Checks.due("value(" + p + ")", x.value(p), p + 1);
                x.crash(p);
                Checks.due("value(" + p + ") while down", x.value(p), 0);
            }
        }
    }

    private static void valueMayBeAnyInt() {
        Calls x = new RealCalls(3, 3, 4);
        for (int p = 0; p < 3; p++) {
            for (int value : Edges.ints()) {
                Edges.setValue(x, p, value);
                Checks.due("value(" + p + ")", x.value(p), value);
                Checks.due("isUp(" + p + ") with " + value, x.isUp(p), true);
            }
        }
    }

    private static void valueChangesNothing() {
        Calls x = new RealCalls(3, 3, 4);
        x.crash(1);
        Checks.keepsAll(x, "value(0)", () -> x.value(0), 1);
        Checks.keepsAll(x, "value(1) while down", () -> x.value(1), 0);
        Checks.keepsAll(x, "value(3)", () -> x.value(3), 0);
    }

    private static void intervalWhileDown() {
        for (int p = 0; p < 3; p++) {
            Calls x = new RealCalls(3, 3, 4);
            Checks.due("interval(" + p + ") at first", x.interval(p), 0);
            x.checkpoint(p);
            x.checkpoint(p);
            Checks.due("interval(" + p + ")", x.interval(p), 2);
            x.crash(p);
            Checks.due("interval(" + p + ") while down", x.interval(p), 2);
            Checks.due("interval of another", x.interval((p + 1) % 3), 0);
        }
        Calls x = new RealCalls(2, 3, 4);
        Edges.raise(x, 1, 99);
        x.crash(1);
        Checks.due("interval(1) at the limit while down", x.interval(1), 99);
    }

    private static void intervalOfABadProcess() {
        for (int n = 2; n <= 4; n++) {
            Calls x = new RealCalls(n, 3, 4);
            for (int p : Edges.badOf(n)) {
                Checks.due("interval(" + p + ")", x.interval(p), RecoveryLine.BAD);
            }
        }
    }

    private static void intervalChangesNothing() {
        Calls x = new RealCalls(3, 3, 4);
        x.checkpoint(0);
        x.crash(1);
        Checks.keepsAll(x, "interval(0)", () -> x.interval(0), 1);
        Checks.keepsAll(x, "interval(1) while down", () -> x.interval(1), 0);
        Checks.keepsAll(x, "interval(3)", () -> x.interval(3), RecoveryLine.BAD);
    }

    private static void upOrNot() {
        for (int n = 2; n <= 4; n++) {
            Calls x = new RealCalls(n, 3, 4);
            for (int p : Edges.badOf(n)) {
                Checks.due("isUp(" + p + ")", x.isUp(p), false);
            }
            for (int p = 0; p < n; p++) {
                Checks.due("isUp(" + p + ")", x.isUp(p), true);
                x.crash(p);
                Checks.due("isUp(" + p + ") after its crash", x.isUp(p), false);
                x.recover();
                Checks.due("isUp(" + p + ") after recovery", x.isUp(p), true);
            }
        }
    }

    /** Two objects that differ in the lost value alone can't be told apart, then or later. */
    private static void nothingShowsOfTheLostValue() {
        Calls x = new RealCalls(3, 3, 4);
        Calls y = new RealCalls(3, 3, 4);
        x.step(1, 1);
        y.step(1, 2);
        Checks.due("value(1) is another", x.value(1) == y.value(1), false);
        for (Calls one : List.of(x, y)) {
            one.crash(1);
            one.send(0, 1);
            one.reclaim();
        }
        Checks.same("differing while down", Snapshot.of(x).differences(Snapshot.of(y)), Set.of());
        for (Calls one : List.of(x, y)) {
            one.recover();
            one.deliver(0);
            one.checkpoint(1);
        }
        Checks.same("differing after recovery", Snapshot.of(x).differences(Snapshot.of(y)), Set.of());
    }

    private static void isUpChangesNothing() {
        Calls x = new RealCalls(3, 3, 4);
        x.crash(1);
        Checks.keepsAll(x, "isUp(0)", () -> x.isUp(0) ? 1 : 0, 1);
        Checks.keepsAll(x, "isUp(1) while down", () -> x.isUp(1) ? 1 : 0, 0);
        Checks.keepsAll(x, "isUp(3)", () -> x.isUp(3) ? 1 : 0, 0);
    }
}
