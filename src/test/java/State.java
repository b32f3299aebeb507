import java.util.ArrayList;
import java.util.List;
import java.util.function.Consumer;

/** A state that calls lead to; it can be made any number of times, to set equal ones side by side. */
record State(String name, int processes, int checkpoints, int slots, Consumer<Calls> calls) {
    Calls real() {
        Calls x = new RealCalls(processes, checkpoints, slots);
        calls.accept(x);
        return x;
    }

    Calls model() {
        Calls x = new ReferenceModel(processes, checkpoints, slots);
        calls.accept(x);
        return x;
    }

    static List<State> all() {
        List<State> all = new ArrayList<>();
        all.add(new State("the start", 2, 3, 4, x -> { }));
        all.add(new State("slots full", 3, 3, 4, State::fullSlots));
        all.add(new State("checkpoints full", 3, 4, 5, State::fullCheckpoints));
        all.add(new State("one down", 3, 4, 5, State::oneDown));
        all.add(new State("all down", 4, 5, 16, State::allDown));
        all.add(new State("all full, two down", 4, 3, 4, State::fullAndDown));
        all.add(new State("at the limit", 2, 3, 4, x -> Edges.raise(x, 0, 99)));
        all.add(new State("at the limit and full", 2, 3, 4, State::limitAndFull));
        all.add(new State("at the limit, full and down", 2, 3, 4, State::limitFullAndDown));
        all.add(new State("recovered", 3, 4, 5, State::recovered));
        all.add(new State("the newest reclaimed", 2, 4, 8, State::newestReclaimed));
        return all;
    }

    private static void fullSlots(Calls x) {
        Edges.fillSlots(x, 0, 1, 2);
        Edges.fillSlots(x, 1, 2, 2);
        x.deliver(1);
        x.deliver(2);
    }

    private static void fullCheckpoints(Calls x) {
        Edges.pass(x, 0, 1);
        for (int i = 0; i < 3; i++) {
            x.checkpoint(1);
            x.step(1, i);
        }
        x.checkpoint(2);
    }

    private static void oneDown(Calls x) {
        x.checkpoint(0);
        Edges.pass(x, 0, 1);
        Edges.pass(x, 1, 2);
        x.checkpoint(2);
        x.send(0, 2);
        x.send(2, 0);
        x.crash(0);
    }

    private static void allDown(Calls x) {
        for (int i = 0; i < 10; i++) {
            Edges.pass(x, i % 4, (i + 1) % 4);
            x.checkpoint((i * 3) % 4);
        }
        for (int p = 0; p < 4; p++) {
            x.send(p, (p + 2) % 4);
            x.crash(p);
        }
    }

    private static void fullAndDown(Calls x) {
        Edges.pass(x, 0, 3);
        for (int p = 0; p < 4; p++) {
            x.checkpoint(p);
            x.checkpoint(p);
        }
        Edges.pass(x, 3, 1);
        Edges.fillSlots(x, 1, 2, 2);
        x.crash(2);
        x.crash(3);
    }

    private static void limitAndFull(Calls x) {
        Edges.raise(x, 0, 97);
        x.checkpoint(0);
        x.checkpoint(0);
    }

    private static void limitFullAndDown(Calls x) {
        limitAndFull(x);
        Edges.pass(x, 0, 1);
        x.crash(0);
    }

    private static void recovered(Calls x) {
        oneDown(x);
        x.recover();
    }

    /** Checkpoint 2 of process 1 was its newest, and lay behind every line. */
    private static void newestReclaimed(Calls x) {
        x.checkpoint(1);
        Edges.pass(x, 0, 1);
        x.checkpoint(1);
        Edges.pass(x, 1, 0);
        x.reclaim();
    }
}
