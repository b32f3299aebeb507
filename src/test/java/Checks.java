import java.util.Map;
import java.util.Set;
import java.util.TreeSet;

/** Counts and prints the answers that are not as due. */
final class Checks {
    private static int wrong = 0;
    private static int made = 0;

    private Checks() {
    }

    static void due(String what, long got, long want) {
        made++;
        if (got != want) {
            wrong++;
            System.out.println(what + " answered " + got + ", due is " + want);
        }
    }

    static void due(String what, boolean got, boolean want) {
        due(what, got ? 1 : 0, want ? 1 : 0);
    }

    static void same(String what, Object got, Object want) {
        made++;
        if (!got.equals(want)) {
            wrong++;
            System.out.println(what + ": got " + got + ", due is " + want);
        }
    }

    /** Every entry but the named ones is as before, and the named ones are not. */
    static void changed(String what, Map<String, Integer> before, Map<String, Integer> after, String... names) {
        Set<String> differing = new TreeSet<>();
        for (Map.Entry<String, Integer> entry : before.entrySet()) {
            if (!entry.getValue().equals(after.get(entry.getKey()))) {
                differing.add(entry.getKey());
            }
        }
        same("changed by " + what, differing, new TreeSet<>(Set.of(names)));
    }

    static boolean anyWrong() {
        return wrong != 0;
    }

    static void finish() {
        System.out.println(made + " checks, " + wrong + " wrong");
        if (wrong != 0) {
            System.exit(1);
        }
    }
}
