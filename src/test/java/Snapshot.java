import java.util.Map;
import java.util.TreeMap;

/** All that can be seen of an object, by the name of the getter call. */
final class Snapshot {
    // One past the greatest counts, so that bad arguments are looked at too.
    private static final int PROCESSES = 5;
    private static final int CHECKPOINTS = 9;
    private static final int SLOTS = 17;

    private Snapshot() {
    }

    /** The state alone, without what can be worked out from it. */
    static Map<String, Integer> state(Calls x) {
        Map<String, Integer> seen = new TreeMap<>();
        for (int p = -1; p < PROCESSES; p++) {
            seen.put("value(" + p + ")", x.value(p));
            seen.put("interval(" + p + ")", x.interval(p));
            seen.put("isUp(" + p + ")", x.isUp(p) ? 1 : 0);
            for (int k = -1; k < CHECKPOINTS; k++) {
                seen.put("checkpointNumber(" + p + ", " + k + ")", x.checkpointNumber(p, k));
            }
            for (int number = -5; number <= 101; number++) {
                seen.put("savedValue(" + p + ", " + number + ")", x.savedValue(p, number));
            }
        }
        for (int slot = -1; slot < SLOTS; slot++) {
            for (int what = -1; what <= 6; what++) {
                seen.put("message(" + slot + ", " + what + ")", x.message(slot, what));
            }
        }
        return seen;
    }

    /** What the lines make of the state: every probe and every needed. */
    static Map<String, Integer> lines(Calls x) {
        Map<String, Integer> seen = new TreeMap<>();
        for (int p = -1; p < PROCESSES; p++) {
            for (int mask = 0; mask < 16; mask++) {
                seen.put("probe(" + mask + ", " + p + ")", x.probe(mask, p));
            }
            for (int number = -5; number <= 101; number++) {
                seen.put("needed(" + p + ", " + number + ")", x.needed(p, number));
            }
        }
        return seen;
    }

    static Map<String, Integer> all(Calls x) {
        Map<String, Integer> seen = state(x);
        seen.putAll(lines(x));
        return seen;
    }
}
