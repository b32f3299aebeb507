import java.util.ArrayList;
import java.util.List;
import java.util.Set;
import java.util.TreeSet;

/** All that can be seen of an object at one time, each answer under the name of its getter call. */
final class Snapshot {
    // One past the greatest counts, so that bad arguments are looked at too.
    private static final int PROCESSES = 5;
    private static final int CHECKPOINTS = 9;
    private static final int SLOTS = 17;
    private static final int LEAST_NUMBER = -5;
    private static final int MOST_NUMBER = 101;

    // The names stand apart from the answers: making them anew for each snapshot is slow.
    private static final List<String> NAMES = names();

    private final List<Integer> answers = new ArrayList<>(NAMES.size());

    private Snapshot(Calls x) {
        for (int p = -1; p < PROCESSES; p++) {
            answers.add(x.value(p));
            answers.add(x.interval(p));
            answers.add(x.isUp(p) ? 1 : 0);
            for (int k = -1; k < CHECKPOINTS; k++) {
                answers.add(x.checkpointNumber(p, k));
            }
            for (int mask = 0; mask < 16; mask++) {
                answers.add(x.probe(mask, p));
            }
            for (int number = LEAST_NUMBER; number <= MOST_NUMBER; number++) {
                answers.add(x.savedValue(p, number));
                answers.add(x.needed(p, number));
            }
        }
        for (int slot = -1; slot < SLOTS; slot++) {
            for (int what = -1; what <= 6; what++) {
                answers.add(x.message(slot, what));
            }
        }
    }

    private static List<String> names() {
        List<String> names = new ArrayList<>();
        for (int p = -1; p < PROCESSES; p++) {
            names.add("value(" + p + ")");
            names.add("interval(" + p + ")");
            names.add("isUp(" + p + ")");
            for (int k = -1; k < CHECKPOINTS; k++) {
                names.add("checkpointNumber(" + p + ", " + k + ")");
            }
            for (int mask = 0; mask < 16; mask++) {
                names.add("probe(" + mask + ", " + p + ")");
            }
            for (int number = LEAST_NUMBER; number <= MOST_NUMBER; number++) {
                names.add("savedValue(" + p + ", " + number + ")");
                names.add("needed(" + p + ", " + number + ")");
            }
        }
        for (int slot = -1; slot < SLOTS; slot++) {
            for (int what = -1; what <= 6; what++) {
                names.add("message(" + slot + ", " + what + ")");
            }
        }
        return names;
    }

    static Snapshot of(Calls x) {
        return new Snapshot(x);
    }

    /** The names of the answers in which the two differ. */
    Set<String> differences(Snapshot other) {
        Set<String> differing = new TreeSet<>();
        for (int i = 0; i < answers.size(); i++) {
            if (!answers.get(i).equals(other.answers.get(i))) {
                differing.add(NAMES.get(i));
            }
        }
        return differing;
    }

    /** As differences, without probe and needed, which follow from the rest. */
    Set<String> stateDifferences(Snapshot other) {
        Set<String> differing = differences(other);
        differing.removeIf(name -> name.startsWith("probe") || name.startsWith("needed"));
        return differing;
    }
}
