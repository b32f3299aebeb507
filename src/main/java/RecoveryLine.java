/**
 * Processes that send, receive and save checkpoints at will, and that roll back
 * together to the greatest consistent recovery line after crashes.
 */
public final class RecoveryLine {
    public static final int OK = 0;
    public static final int BAD = -1;
    public static final int DOWN = -2;
    public static final int FULL = -3;
    public static final int NONE = -4;
    public static final int LIMIT = -5;

    public static final int NOW = 1000;
    public static final int MAX_NUMBER = 99;

    public static final int EMPTY = 0;
    public static final int IN_TRANSIT = 1;
    public static final int RECEIVED = 2;

    private static final int LEAST_PROCESSES = 2;
    private static final int MOST_PROCESSES = 4;
    private static final int LEAST_CHECKPOINTS = 3;
    private static final int MOST_CHECKPOINTS = 8;
    private static final int LEAST_SLOTS = 4;
    private static final int MOST_SLOTS = 16;
    private static final int CHECKPOINT_CELLS = MOST_PROCESSES * MOST_CHECKPOINTS;

    // Every round but the last lowers a component, and a component that starts at
    // "now" can be lowered once for each stored checkpoint.
    private static final int MOST_ROUNDS = CHECKPOINT_CELLS + 1;

    private final int processCount;
    private final int checkpointRoom;
    private final int slotCount;

    private final int[] values = new int[MOST_PROCESSES];
    private final int[] intervals = new int[MOST_PROCESSES];
    private final boolean[] up = new boolean[MOST_PROCESSES];

    // The checkpoints of p lie in the first storedCounts[p] cells from firstCell(p)
    // on, by rising number: a new number is always greater than the stored ones.
    private final int[] storedCounts = new int[MOST_PROCESSES];
    private final int[] numbers = new int[CHECKPOINT_CELLS];
    private final int[] savedValues = new int[CHECKPOINT_CELLS];

    private final int[] states = new int[MOST_SLOTS];
    private final int[] senders = new int[MOST_SLOTS];
    private final int[] receivers = new int[MOST_SLOTS];
    private final int[] payloads = new int[MOST_SLOTS];
    private final int[] sendIntervals = new int[MOST_SLOTS];
    private final int[] receiveIntervals = new int[MOST_SLOTS];

    // Working room, since methods make no arrays: it holds nothing between calls.
    private final int[] line = new int[MOST_PROCESSES];
    private final boolean[] neededCells = new boolean[CHECKPOINT_CELLS];
    private final boolean[] settledSlots = new boolean[MOST_SLOTS];

    public RecoveryLine(int processes, int checkpoints, int messages) {
        processCount = clamp(processes, LEAST_PROCESSES, MOST_PROCESSES);
        checkpointRoom = clamp(checkpoints, LEAST_CHECKPOINTS, MOST_CHECKPOINTS);
        slotCount = clamp(messages, LEAST_SLOTS, MOST_SLOTS);
        for (int p = 0; p < processCount; p++) {
            values[p] = p + 1;
            up[p] = true;
            store(p, 0);
        }
    }

    public int step(int p, int x) {
        if (isBadProcess(p)) {
            return BAD;
        }
        if (!up[p]) {
            return DOWN;
        }
        mixIn(p, x);
        return OK;
    }

    public int send(int p, int q) {
        if (isBadProcess(p) || isBadProcess(q) || p == q) {
            return BAD;
        }
        if (!up[p]) {
            return DOWN;
        }
        int slot = firstEmptySlot();
        if (slot == NONE) {
            return FULL;
        }
        states[slot] = IN_TRANSIT;
        senders[slot] = p;
        receivers[slot] = q;
        payloads[slot] = values[p];
        sendIntervals[slot] = intervals[p];
        return slot;
    }

    public int deliver(int slot) {
        if (isBadSlot(slot)) {
            return BAD;
        }
        if (states[slot] != IN_TRANSIT) {
            return NONE;
        }
        int receiver = receivers[slot];
        if (!up[receiver]) {
            return DOWN;
        }
        mixIn(receiver, payloads[slot]);
        states[slot] = RECEIVED;
        receiveIntervals[slot] = intervals[receiver];
        return OK;
    }

    public int lose(int slot) {
        if (isBadSlot(slot)) {
            return BAD;
        }
        if (states[slot] != IN_TRANSIT) {
            return NONE;
        }
        states[slot] = EMPTY;
        return OK;
    }

    public int checkpoint(int p) {
        if (isBadProcess(p)) {
            return BAD;
        }
        if (!up[p]) {
            return DOWN;
        }
        if (intervals[p] >= MAX_NUMBER) {
            return LIMIT;
        }
        if (storedCounts[p] >= checkpointRoom) {
            return FULL;
        }
        intervals[p]++;
        store(p, intervals[p]);
        return intervals[p];
    }

    public int crash(int p) {
        if (isBadProcess(p)) {
            return BAD;
        }
        if (!up[p]) {
            return DOWN;
        }
        up[p] = false;
        return OK;
    }

    public int recover() {
        int down = downSet();
        if (down == 0) {
            return 0;
        }
        findLine(down);
        for (int slot = 0; slot < slotCount; slot++) {
            rollBackSlot(slot);
        }
        int rolledBack = 0;
        for (int p = 0; p < processCount; p++) {
            if (!isNow(p)) {
                rollBackProcess(p);
                rolledBack |= 1 << p;
            }
            up[p] = true;
        }
        return rolledBack;
    }

    public int reclaim() {
        markNeededAndSettled();
        int removed = 0;
        for (int p = 0; p < processCount; p++) {
            removed += dropUnneeded(p);
        }
        int emptied = 0;
        for (int slot = 0; slot < slotCount; slot++) {
            if (settledSlots[slot]) {
                states[slot] = EMPTY;
                emptied++;
            }
        }
        return 100 * removed + emptied;
    }

    public int probe(int mask, int p) {
        if (isBadProcess(p)) {
            return BAD;
        }
        int down = downSet();
        findLine(down | mask);
        return isNow(p) ? NOW : line[p];
    }

    public int needed(int p, int number) {
        if (isBadProcess(p)) {
            return BAD;
        }
        int cell = cellOf(p, number);
        if (cell == NONE) {
            return NONE;
        }
        markNeededAndSettled();
        return neededCells[cell] ? 1 : 0;
    }

    public int value(int p) {
        if (isBadProcess(p) || !up[p]) {
            return 0;
        }
        return values[p];
    }

    public int interval(int p) {
        if (isBadProcess(p)) {
            return BAD;
        }
        return intervals[p];
    }

    public boolean isUp(int p) {
        return !isBadProcess(p) && up[p];
    }

    public int checkpointNumber(int p, int k) {
        if (isBadProcess(p)) {
            return BAD;
        }
        if (k < 0 || k >= storedCounts[p]) {
            return NONE;
        }
        return numbers[firstCell(p) + k];
    }

    public int savedValue(int p, int number) {
        if (isBadProcess(p)) {
            return 0;
        }
        int cell = cellOf(p, number);
        if (cell == NONE) {
            return 0;
        }
        return savedValues[cell];
    }

    public int message(int slot, int what) {
        if (isBadSlot(slot) || what < 0 || what > 5) {
            return BAD;
        }
        if (what == 0) {
            return states[slot];
        }
        if (states[slot] == EMPTY) {
            return NONE;
        }
        switch (what) {
            case 1:
                return senders[slot];
            case 2:
                return receivers[slot];
            case 3:
                return payloads[slot];
            case 4:
                return sendIntervals[slot];
            default:
                return states[slot] == RECEIVED ? receiveIntervals[slot] : NONE;
        }
    }

    private static int clamp(int wish, int least, int most) {
        if (wish < least) {
            return least;
        }
        return wish > most ? most : wish;
    }

    private static int firstCell(int p) {
        return p * MOST_CHECKPOINTS;
    }

    private boolean isBadProcess(int p) {
        return p < 0 || p >= processCount;
    }

    private boolean isBadSlot(int slot) {
        return slot < 0 || slot >= slotCount;
    }

    private void mixIn(int p, int x) {
        values[p] = 31 * values[p] + x;
    }

    private int firstEmptySlot() {
        for (int slot = 0; slot < slotCount; slot++) {
            if (states[slot] == EMPTY) {
                return slot;
            }
        }
        return NONE;
    }

    private void store(int p, int number) {
        int cell = firstCell(p) + storedCounts[p];
        numbers[cell] = number;
        savedValues[cell] = values[p];
        storedCounts[p]++;
    }

    private int cellOf(int p, int number) {
        int first = firstCell(p);
        for (int k = 0; k < storedCounts[p]; k++) {
            if (numbers[first + k] == number) {
                return first + k;
            }
        }
        return NONE;
    }

    // Every state has a consistent choice, so a search for a line always finds one.
    private int newestAtMost(int p, int bound) {
        int first = firstCell(p);
        int newest = NONE;
        for (int k = 0; k < storedCounts[p]; k++) {
            if (numbers[first + k] <= bound) {
                newest = numbers[first + k];
            }
        }
        return newest;
    }

    // A sum of 1 << p, so that it can be joined with the mask of probe.
    private int downSet() {
        int down = 0;
        for (int p = 0; p < processCount; p++) {
            if (!up[p]) {
                down |= 1 << p;
            }
        }
        return down;
    }

    // From the greatest choice for T on, only what a message forces down is lowered,
    // which never goes below the greatest consistent choice: that is line(T).
    private void findLine(int crashed) {
        startLine(crashed);
        boolean lowered = true;
        for (int round = 0; lowered && round < MOST_ROUNDS; round++) {
            lowered = lowerLine();
        }
    }

    private void startLine(int crashed) {
        for (int p = 0; p < processCount; p++) {
            if ((crashed & (1 << p)) != 0) {
                line[p] = newestAtMost(p, MAX_NUMBER);
            } else {
                line[p] = intervals[p] + 1;
            }
        }
    }

    private boolean lowerLine() {
        boolean lowered = false;
        for (int slot = 0; slot < slotCount; slot++) {
            if (isOrphan(slot)) {
                int receiver = receivers[slot];
                line[receiver] = newestAtMost(receiver, receiveIntervals[slot]);
                lowered = true;
            }
        }
        return lowered;
    }

    private boolean isOrphan(int slot) {
        return states[slot] == RECEIVED && isReceiptIncluded(slot) && !isSendingIncluded(slot);
    }

    private boolean isSendingIncluded(int slot) {
        return sendIntervals[slot] < line[senders[slot]];
    }

    private boolean isReceiptIncluded(int slot) {
        return receiveIntervals[slot] < line[receivers[slot]];
    }

    // No stored number is above the interval number, so only "now" can be.
    private boolean isNow(int p) {
        return line[p] > intervals[p];
    }

    private void rollBackSlot(int slot) {
        if (states[slot] == EMPTY) {
            return;
        }
        if (!isSendingIncluded(slot)) {
            states[slot] = EMPTY;
        } else if (states[slot] == RECEIVED && !isReceiptIncluded(slot)) {
            states[slot] = IN_TRANSIT;
        }
    }

    private void rollBackProcess(int p) {
        int cell = cellOf(p, line[p]);
        // A line holds stored checkpoints alone, yet no index is used unseen.
        if (cell == NONE) {
            return;
        }
        storedCounts[p] = cell - firstCell(p) + 1;
        intervals[p] = numbers[cell];
        values[p] = savedValues[cell];
    }

    // NEEDED asks for one T and SETTLED for all, but over the same sets: one pass serves both.
    private void markNeededAndSettled() {
        clearMarks();
        int down = downSet();
        for (int crashed = 0; crashed < 1 << processCount; crashed++) {
            if ((crashed & down) == down) {
                findLine(crashed);
                markNeededByLine();
                unmarkUnsettledByLine();
            }
        }
    }

    private void clearMarks() {
        for (int cell = 0; cell < CHECKPOINT_CELLS; cell++) {
            neededCells[cell] = false;
        }
        for (int slot = 0; slot < slotCount; slot++) {
            settledSlots[slot] = states[slot] == RECEIVED;
        }
    }

    private void markNeededByLine() {
        for (int p = 0; p < processCount; p++) {
            int cell = cellOf(p, line[p]);
            if (cell != NONE) {
                neededCells[cell] = true;
            }
        }
    }

    private void unmarkUnsettledByLine() {
        for (int slot = 0; slot < slotCount; slot++) {
            if (settledSlots[slot] && !isReceiptIncluded(slot)) {
                settledSlots[slot] = false;
            }
        }
    }

    private int dropUnneeded(int p) {
        int first = firstCell(p);
        int count = storedCounts[p];
        int kept = 0;
        for (int k = 0; k < count; k++) {
            if (neededCells[first + k]) {
                numbers[first + kept] = numbers[first + k];
                savedValues[first + kept] = savedValues[first + k];
                kept++;
            }
        }
        storedCounts[p] = kept;
        return count - kept;
    }
}
