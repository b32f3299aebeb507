/** Hands every call on to a RecoveryLine, which by its rules can't implement an interface of the tests. */
final class RealCalls implements Calls {
    private final RecoveryLine line;

    RealCalls(int processes, int checkpoints, int messages) {
        line = new RecoveryLine(processes, checkpoints, messages);
    }

    @Override public int step(int p, int x) { return line.step(p, x); }
    @Override public int send(int p, int q) { return line.send(p, q); }
    @Override public int deliver(int slot) { return line.deliver(slot); }
    @Override public int lose(int slot) { return line.lose(slot); }
    @Override public int checkpoint(int p) { return line.checkpoint(p); }
    @Override public int crash(int p) { return line.crash(p); }
    @Override public int recover() { return line.recover(); }
    @Override public int reclaim() { return line.reclaim(); }
    @Override public int probe(int mask, int p) { return line.probe(mask, p); }
    @Override public int needed(int p, int number) { return line.needed(p, number); }
    @Override public int value(int p) { return line.value(p); }
    @Override public int interval(int p) { return line.interval(p); }
    @Override public boolean isUp(int p) { return line.isUp(p); }
    @Override public int checkpointNumber(int p, int k) { return line.checkpointNumber(p, k); }
    @Override public int savedValue(int p, int number) { return line.savedValue(p, number); }
    @Override public int message(int slot, int what) { return line.message(slot, what); }
}
