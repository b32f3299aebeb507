import java.util.ArrayList;
import java.util.List;
import java.util.TreeMap;

/** The document's promises written down as they stand, with lines as Choices finds them. */
final class ReferenceModel implements Calls {
    private static final class Process {
        int value;
        int interval;
        boolean up = true;
        final TreeMap<Integer, Integer> checkpoints = new TreeMap<>();
    }

    private static final class Message {
        int sender;
        int receiver;
        int payload;
        int sendInterval;
        boolean received;
        int receiveInterval;
    }

    private final int n;
    private final int c;
    private final int m;
    private final List<Process> processes = new ArrayList<>();
    private final Message[] slots;
    // Or null: read off anew only after a change.
    private Choices choices;

    ReferenceModel(int processes, int checkpoints, int messages) {
        n = Math.max(2, Math.min(4, processes));
        c = Math.max(3, Math.min(8, checkpoints));
        m = Math.max(4, Math.min(16, messages));
        for (int p = 0; p < n; p++) {
            Process process = new Process();
            process.value = p + 1;
            process.checkpoints.put(0, p + 1);
            this.processes.add(process);
        }
        slots = new Message[m];
    }

    private boolean badProcess(int p) {
        return p < 0 || p >= n;
    }

    private boolean badSlot(int slot) {
        return slot < 0 || slot >= m;
    }

    private void changed() {
        choices = null;
    }

    private Choices choices() {
        if (choices == null) {
            choices = Choices.of(this);
        }
        return choices;
    }

    @Override public int step(int p, int x) {
        if (badProcess(p)) {
            return -1;
        }
        if (!processes.get(p).up) {
            return -2;
        }
        processes.get(p).value = 31 * processes.get(p).value + x;
        return 0;
    }

    @Override public int send(int p, int q) {
        if (badProcess(p) || badProcess(q) || p == q) {
            return -1;
        }
        if (!processes.get(p).up) {
            return -2;
        }
        for (int slot = 0; slot < m; slot++) {
            if (slots[slot] == null) {
                Message message = new Message();
                message.sender = p;
                message.receiver = q;
                message.payload = processes.get(p).value;
                message.sendInterval = processes.get(p).interval;
                slots[slot] = message;
                changed();
                return slot;
            }
        }
        return -3;
    }

    @Override public int deliver(int slot) {
        if (badSlot(slot)) {
            return -1;
        }
        Message message = slots[slot];
        if (message == null || message.received) {
            return -4;
        }
        Process receiver = processes.get(message.receiver);
        if (!receiver.up) {
            return -2;
        }
        receiver.value = 31 * receiver.value + message.payload;
        message.received = true;
        message.receiveInterval = receiver.interval;
        changed();
        return 0;
    }

    @Override public int lose(int slot) {
        if (badSlot(slot)) {
            return -1;
        }
        if (slots[slot] == null || slots[slot].received) {
            return -4;
        }
        slots[slot] = null;
        changed();
        return 0;
    }

    @Override public int checkpoint(int p) {
        if (badProcess(p)) {
            return -1;
        }
        Process process = processes.get(p);
        if (!process.up) {
            return -2;
        }
        if (process.interval == 99) {
            return -5;
        }
        if (process.checkpoints.size() == c) {
            return -3;
        }
        process.interval++;
        process.checkpoints.put(process.interval, process.value);
        changed();
        return process.interval;
    }

    @Override public int crash(int p) {
        if (badProcess(p)) {
            return -1;
        }
        if (!processes.get(p).up) {
            return -2;
        }
        processes.get(p).up = false;
        changed();
        return 0;
    }

    @Override public int recover() {
        int down = choices().down();
        if (down == 0) {
            return 0;
        }
        int[] x = choices().line(down);
        for (int slot = 0; slot < m; slot++) {
            Message message = slots[slot];
            if (message == null) {
                continue;
            }
            if (message.sendInterval >= x[message.sender]) {
                slots[slot] = null;
            } else if (message.received && message.receiveInterval >= x[message.receiver]) {
                message.received = false;
            }
        }
        int answer = 0;
        for (int p = 0; p < n; p++) {
            Process process = processes.get(p);
            if (x[p] != choices().now(p)) {
                process.checkpoints.tailMap(x[p], false).clear();
                process.interval = x[p];
                process.value = process.checkpoints.get(x[p]);
                answer += 1 << p;
            }
            process.up = true;
        }
        changed();
        return answer;
    }

    @Override public int reclaim() {
        List<List<Integer>> drop = new ArrayList<>();
        for (int p = 0; p < n; p++) {
            List<Integer> own = new ArrayList<>();
            for (int number : processes.get(p).checkpoints.keySet()) {
                if (!choices().isNeeded(p, number)) {
                    own.add(number);
                }
            }
            drop.add(own);
        }
        List<Integer> empty = new ArrayList<>();
        for (int slot = 0; slot < m; slot++) {
            if (choices().isSettled(slot)) {
                empty.add(slot);
            }
        }
        int removed = 0;
        for (int p = 0; p < n; p++) {
            removed += drop.get(p).size();
            processes.get(p).checkpoints.keySet().removeAll(drop.get(p));
        }
        for (int slot : empty) {
            slots[slot] = null;
        }
        changed();
        return 100 * removed + empty.size();
    }

    @Override public int probe(int mask, int p) {
        if (badProcess(p)) {
            return -1;
        }
        int set = choices().down();
        for (int q = 0; q < n; q++) {
            if ((mask & (1 << q)) != 0) {
                set |= 1 << q;
            }
        }
        int component = choices().line(set)[p];
        return component == choices().now(p) ? 1000 : component;
    }

    @Override public int needed(int p, int number) {
        if (badProcess(p)) {
            return -1;
        }
        if (!processes.get(p).checkpoints.containsKey(number)) {
            return -4;
        }
        return choices().isNeeded(p, number) ? 1 : 0;
    }

    @Override public int value(int p) {
        return badProcess(p) || !processes.get(p).up ? 0 : processes.get(p).value;
    }

    @Override public int interval(int p) {
        return badProcess(p) ? -1 : processes.get(p).interval;
    }

    @Override public boolean isUp(int p) {
        return !badProcess(p) && processes.get(p).up;
    }

    @Override public int checkpointNumber(int p, int k) {
        if (badProcess(p)) {
            return -1;
        }
        List<Integer> own = new ArrayList<>(processes.get(p).checkpoints.keySet());
        return k < 0 || k >= own.size() ? -4 : own.get(k);
    }

    @Override public int savedValue(int p, int number) {
        return badProcess(p) ? 0 : processes.get(p).checkpoints.getOrDefault(number, 0);
    }

    @Override public int message(int slot, int what) {
        if (badSlot(slot) || what < 0 || what > 5) {
            return -1;
        }
        Message message = slots[slot];
        if (what == 0) {
            return message == null ? 0 : message.received ? 2 : 1;
        }
        if (message == null) {
            return -4;
        }
        switch (what) {
            case 1: return message.sender;
            case 2: return message.receiver;
            case 3: return message.payload;
            case 4: return message.sendInterval;
            default: return message.received ? message.receiveInterval : -4;
        }
    }
}
