import java.util.Set;
import java.util.function.ToIntFunction;

/** Mixed runs against the reference model; they look random, yet are the same every time. */
public final class RandomRunsTest {
    private static final int SHORT_RUNS = 600;
    private static final int LONG_RUNS = 6;

    private static long seed;

    private final int run;
    private final int processes;
    private final int slots;
    // How often, of every 32 calls, a process crashes or space is reclaimed.
    private final int crashes;
    private final int reclaims;
    private final Calls real;
    private final Calls model;
    private final StringBuilder path = new StringBuilder();

    private RandomRunsTest(int run, int crashes, int reclaims) {
        this.run = run;
        this.crashes = crashes;
        this.reclaims = reclaims;
        int n = 1 + below(5);
        int c = 2 + below(8);
        int m = 3 + below(15);
        real = new RealCalls(n, c, m);
        model = new ReferenceModel(n, c, m);
        processes = Math.max(2, Math.min(4, n));
        slots = Math.max(4, Math.min(16, m));
        path.append("new(" + n + ", " + c + ", " + m + ")");
    }

    public static void main(String[] args) {
        Checks.section("Not promised");
        Checks.sentence("How lines, NEEDED checkpoints and SETTLED messages are found is free, as long as the answers "
                + "and changes are those promised.", RandomRunsTest::allRuns);
        Checks.finish();
    }

    private static void allRuns() {
        for (int run = 0; run < SHORT_RUNS && !Checks.anyWrong(); run++) {
            seed = run;
            new RandomRunsTest(run, 1 + below(3), below(4)).go(150, 3);
        }
        // Long enough, and reclaiming often enough, to come to MAX_NUMBER.
        for (int run = 0; run < LONG_RUNS && !Checks.anyWrong(); run++) {
            seed = SHORT_RUNS + run;
            new RandomRunsTest(SHORT_RUNS + run, 0, 8).go(3000, 20);
        }
    }

    private static int below(int bound) {
        seed = seed * 6364136223846793005L + 1442695040888963407L;
        return (int) ((seed >>> 33) % bound);
    }

    /** Mostly one of 0 .. count-1, at times just beside. */
    private static int pick(int count) {
        return below(16) == 0 ? below(2) * (count + 1) - 1 : below(count);
    }

    private void go(int calls, int between) {
        for (int i = 0; i < calls && !Checks.anyWrong(); i++) {
            change();
            if (i % between == 0) {
                Snapshot want = Snapshot.of(model);
                Checks.same("run " + run + " after " + path + ", wrong getters",
                        want.differences(Snapshot.of(real)), Set.of());
            }
        }
    }

    private void change() {
        int p = pick(processes);
        int q = pick(processes);
        int slot = pick(slots);
        int kind = below(32);
        if (kind < crashes) {
            both("crash(" + p + ")", x -> x.crash(p));
        } else if (kind < crashes + reclaims) {
            both("reclaim()", Calls::reclaim);
        } else if (kind < 18) {
            both("deliver(" + slot + ")", x -> x.deliver(slot));
        } else if (kind < 24) {
            both("send(" + p + ", " + q + ")", x -> x.send(p, q));
        } else if (kind < 29) {
            both("checkpoint(" + p + ")", x -> x.checkpoint(p));
        } else if (kind < 30) {
            both("lose(" + slot + ")", x -> x.lose(slot));
        } else if (kind < 31) {
            int number = below(Integer.MAX_VALUE) * 2;
            both("step(" + p + ", " + number + ")", x -> x.step(p, number));
        } else {
            both("recover()", Calls::recover);
        }
    }

    private void both(String call, ToIntFunction<Calls> made) {
        path.append(' ').append(call);
        int want = made.applyAsInt(model);
        Checks.due("run " + run + " after " + path, made.applyAsInt(real), want);
    }
}
