import java.util.ArrayList;
import java.util.List;
import java.util.Map;
import java.util.TreeMap;
import java.util.function.Consumer;

/**
 * The document's words on choices, lines, NEEDED and SETTLED as they stand, over what the
 * getters show of a state: every choice is gone through, so that nothing here shares a way
 * of thinking with the class under test.
 */
final class Choices {
    // The document's greatest counts, so that no wrong getter can keep a loop going.
    private static final int PROCESSES = 4;
    private static final int CHECKPOINTS = 8;
    private static final int SLOTS = 16;

    private record Receipt(int sender, int sendInterval, int receiver, int receiveInterval) {
    }

    private final List<Integer> intervals = new ArrayList<>();
    private final List<List<Integer>> stored = new ArrayList<>();
    private final Map<Integer, Receipt> receipts = new TreeMap<>();
    private final Map<Integer, int[]> lines = new TreeMap<>();
    private int down = 0;

    private Choices(Calls x) {
        for (int p = 0; p < PROCESSES && x.interval(p) != RecoveryLine.BAD; p++) {
            intervals.add(x.interval(p));
            stored.add(numbers(x, p));
            down += x.isUp(p) ? 0 : 1 << p;
        }
        for (int slot = 0; slot < SLOTS; slot++) {
            if (x.message(slot, 0) == RecoveryLine.RECEIVED) {
                receipts.put(slot,
                        new Receipt(x.message(slot, 1), x.message(slot, 4), x.message(slot, 2), x.message(slot, 5)));
            }
        }
    }

    static Choices of(Calls x) {
        return new Choices(x);
    }

    private static List<Integer> numbers(Calls x, int p) {
        List<Integer> numbers = new ArrayList<>();
        for (int k = 0; k < CHECKPOINTS && x.checkpointNumber(p, k) != RecoveryLine.NONE; k++) {
            numbers.add(x.checkpointNumber(p, k));
        }
        return numbers;
    }

    int processes() {
        return intervals.size();
    }

    /** The set D. */
    int down() {
        return down;
    }

    /** Every T with D a subset of T and T a subset of all processes. */
    List<Integer> sets() {
        List<Integer> sets = new ArrayList<>();
        for (int set = 0; set < 1 << processes(); set++) {
            if ((set & down) == down) {
                sets.add(set);
            }
        }
        return sets;
    }

    /** What "now" counts as. */
    int now(int p) {
        return intervals.get(p) + 1;
    }

    boolean isConsistent(int[] x) {
        for (Receipt receipt : receipts.values()) {
            if (receipt.receiveInterval < x[receipt.receiver] && receipt.sendInterval >= x[receipt.sender]) {
                return false;
            }
        }
        return true;
    }

    List<int[]> consistent(int set) {
        List<int[]> found = new ArrayList<>();
        eachConsistent(set, choice -> found.add(choice.clone()));
        return found;
    }

    private void eachConsistent(int set, Consumer<int[]> use) {
        List<List<Integer>> components = components(set);
        int[] index = new int[processes()];
        int[] choice = new int[processes()];
        boolean more = true;
        while (more) {
            for (int p = 0; p < choice.length; p++) {
                choice[p] = components.get(p).get(index[p]);
            }
            if (isConsistent(choice)) {
                use.accept(choice);
            }
            more = false;
            for (int p = 0; p < index.length && !more; p++) {
                index[p]++;
                more = index[p] < components.get(p).size();
                index[p] = more ? index[p] : 0;
            }
        }
    }

    private List<List<Integer>> components(int set) {
        List<List<Integer>> components = new ArrayList<>();
        for (int p = 0; p < processes(); p++) {
            List<Integer> own = new ArrayList<>(stored.get(p));
            if ((set >> p & 1) == 0) {
                own.add(now(p));
            }
            components.add(own);
        }
        return components;
    }

    static int[] maximum(int[] a, int[] b) {
        int[] max = new int[a.length];
        for (int p = 0; p < a.length; p++) {
            max[p] = Math.max(a[p], b[p]);
        }
        return max;
    }

    /** line(T), with "now" as the number it counts as. */
    int[] line(int set) {
        return lines.computeIfAbsent(set, this::searchLine);
    }

    private int[] searchLine(int set) {
        int[] greatest = new int[processes()];
        int[] found = new int[1];
        eachConsistent(set, choice -> {
            System.arraycopy(maximum(greatest, choice), 0, greatest, 0, greatest.length);
            found[0]++;
        });
        if (found[0] == 0 || !isConsistent(greatest)) {
            throw new IllegalStateException("there is no greatest consistent choice");
        }
        return greatest;
    }

    boolean isNeeded(int p, int number) {
        for (int set : sets()) {
            if (line(set)[p] == number) {
                return true;
            }
        }
        return false;
    }

    boolean isSettled(int slot) {
        Receipt receipt = receipts.get(slot);
        if (receipt == null) {
            return false;
        }
        for (int set : sets()) {
            if (receipt.receiveInterval >= line(set)[receipt.receiver]) {
                return false;
            }
        }
        return true;
    }
}
