import java.util.Set;
import java.util.TreeSet;
import java.util.function.IntSupplier;

/** Counts the checks, and prints those that do not hold. */
final class Checks {
    private static int wrong = 0;
    private static int made = 0;

    private Checks() {
    }

    static void due(String what, long got, long want) {
        same(what, got, want);
    }

    static void due(String what, boolean got, boolean want) {
        same(what, got, want);
    }

    static void same(String what, Object got, Object want) {
        made++;
        if (!got.equals(want)) {
            wrong++;
            System.out.println(what + ": got " + got + ", due is " + want);
        }
    }

    /** The call answers as due, and nothing that can be seen is another afterwards. */
    static void keepsAll(Calls x, String what, IntSupplier call, int want) {
        Snapshot before = Snapshot.of(x);
        due(what, call.getAsInt(), want);
        same("changed by " + what, before.differences(Snapshot.of(x)), Set.of());
    }

    /** The call answers as due, and of the state just the named getters answer otherwise afterwards. */
    static void changes(Calls x, String what, IntSupplier call, int want, String... names) {
        Snapshot before = Snapshot.of(x);
        due(what, call.getAsInt(), want);
        same("changed by " + what, before.stateDifferences(Snapshot.of(x)), new TreeSet<>(Set.of(names)));
    }

    static boolean anyWrong() {
        return wrong != 0;
    }

    static void finish() {
        System.out.println(made + " checks, " + wrong + " wrong");
        if (wrong != 0) {
            System.exit(1);
        }
    }
}
