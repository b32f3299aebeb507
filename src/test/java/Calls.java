/** The calls of RecoveryLine, so that one test can drive the class and the reference model alike. */
interface Calls {
    int step(int p, int x);

    int send(int p, int q);

    int deliver(int slot);

    int lose(int slot);

    int checkpoint(int p);

    int crash(int p);

    int recover();

    int reclaim();

    int probe(int mask, int p);

    int needed(int p, int number);

    int value(int p);

    int interval(int p);

    boolean isUp(int p);

    int checkpointNumber(int p, int k);

    int savedValue(int p, int number);

    int message(int slot, int what);
}
