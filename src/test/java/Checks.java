import java.util.Set;
import java.util.TreeSet;
import java.util.function.IntSupplier;

/** Counts the checks, and prints those that do not hold. */
final class Checks {
    private static int wrong = 0;
    private static int made = 0;
    private static int sentences = 0;
    private static String section = "";
    private static String sentence = "";

    private Checks() {
    }

    /** The section of the document that the next sentences stand in. */
    static void section(String name) {
        section = name;
    }

    /** Runs the test of one sentence of the document; what fails in it is told with the sentence. */
    static void sentence(String words, Runnable test) {
        int before = made;
        sentence = section + ", \"" + words + "\": ";
        test.run();
        // A test that checks nothing would hold whatever the class does.
        due("has checks", made > before, true);
        sentence = "";
        sentences++;
    }

    static void due(String what, long got, long want) {
        same(what, got, want);
    }

    static void due(String what, boolean got, boolean want) {
        same(what, got, want);
    }

    static void same(String what, Object got, Object want) {
        made++;
        if (!got.equals(want)) {
            wrong++;
            System.out.println(sentence + what + ": got " + got + ", due is " + want);
        }
    }

    /** The call answers as due, and nothing that can be seen is another afterwards. */
    static void keepsAll(Calls x, String what, IntSupplier call, int want) {
        Snapshot before = Snapshot.of(x);
        due(what, call.getAsInt(), want);
        same("changed by " + what, before.differences(Snapshot.of(x)), Set.of());
    }

    /** The call answers as due, and of the state just the named getters answer otherwise afterwards. */
    static void changes(Calls x, String what, IntSupplier call, int want, String... names) {
        Snapshot before = Snapshot.of(x);
        due(what, call.getAsInt(), want);
        same("changed by " + what, before.stateDifferences(Snapshot.of(x)), new TreeSet<>(Set.of(names)));
    }

    /** The slot's state, sender, receiver, payload, send interval and receive interval. */
    static void slotIs(Calls x, int slot, int... fields) {
        for (int what = 0; what < fields.length; what++) {
            due("message(" + slot + ", " + what + ")", x.message(slot, what), fields[what]);
        }
    }

    static void slotIsEmpty(Calls x, int slot) {
        slotIs(x, slot, RecoveryLine.EMPTY, RecoveryLine.NONE, RecoveryLine.NONE, RecoveryLine.NONE,
                RecoveryLine.NONE, RecoveryLine.NONE);
    }

    /** Just these checkpoint numbers are stored for p. */
    static void stored(Calls x, int p, int... numbers) {
        for (int k = 0; k < numbers.length; k++) {
            due("checkpointNumber(" + p + ", " + k + ")", x.checkpointNumber(p, k), numbers[k]);
        }
        due("checkpointNumber(" + p + ", " + numbers.length + ")",
                x.checkpointNumber(p, numbers.length), RecoveryLine.NONE);
    }

    /** The components of the line that probe tells for the mask. */
    static void lineIs(Calls x, int mask, int... components) {
        for (int p = 0; p < components.length; p++) {
            due("probe(" + mask + ", " + p + ")", x.probe(mask, p), components[p]);
        }
    }

    static boolean anyWrong() {
        return wrong != 0;
    }

    static void finish() {
        String tested = sentences == 0 ? "" : sentences + " sentences, ";
        System.out.println(tested + made + " checks, " + wrong + " wrong");
        if (wrong != 0) {
            System.exit(1);
        }
    }
}
