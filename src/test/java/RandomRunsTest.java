import java.util.Map;

/** Long mixed runs, the same every time, against the reference model. */
public final class RandomRunsTest {
    // A plain generator with a fixed start: the runs are varied, yet always the same.
    private static long seed;

    private RandomRunsTest() {
    }

    private static int below(int bound) {
        seed = seed * 6364136223846793005L + 1442695040888963407L;
        return (int) ((seed >>> 33) % bound);
    }

    public static void main(String[] args) {
        for (int run = 0; run < 400 && !Checks.anyWrong(); run++) {
            seed = run;
            run(run);
        }
        Checks.finish();
    }

    private static void run(int run) {
        int n = 1 + below(5);
        int c = 2 + below(8);
        int m = 3 + below(15);
        // Some runs crash and reclaim rarely, so that states grow; others do so often.
        int crashes = 1 + below(4);
        int reclaims = below(4);
        Calls real = new RealCalls(n, c, m);
        Calls model = new ReferenceModel(n, c, m);
        String path = "new(" + n + ", " + c + ", " + m + ")";
        for (int call = 0; call < 150 && !Checks.anyWrong(); call++) {
            path += " " + change(real, model, run, path, crashes, reclaims);
            if (call % 3 == 0) {
                compare(run, path, Snapshot.all(real), Snapshot.all(model));
            }
        }
    }

    private static void compare(int run, String path, Map<String, Integer> got, Map<String, Integer> want) {
        if (got.equals(want)) {
            Checks.due("run " + run, 0, 0);
            return;
        }
        for (Map.Entry<String, Integer> entry : want.entrySet()) {
            Checks.due("run " + run + " after " + path + ": " + entry.getKey(), got.get(entry.getKey()), entry.getValue());
        }
    }

    private static String change(Calls real, Calls model, int run, String path, int crashes, int reclaims) {
        int p = below(6) - 1;
        int q = below(6) - 1;
        int slot = below(18) - 1;
        String call;
        int got;
        int want;
        int kind = below(20 + crashes + reclaims);
        if (kind < 1) {
            int x = below(Integer.MAX_VALUE) * 2;
            call = "step(" + p + ", " + x + ")";
            got = real.step(p, x);
            want = model.step(p, x);
        } else if (kind < 7) {
            call = "send(" + p + ", " + q + ")";
            got = real.send(p, q);
            want = model.send(p, q);
        } else if (kind < 14) {
            call = "deliver(" + slot + ")";
            got = real.deliver(slot);
            want = model.deliver(slot);
        } else if (kind < 15) {
            call = "lose(" + slot + ")";
            got = real.lose(slot);
            want = model.lose(slot);
        } else if (kind < 19) {
            call = "checkpoint(" + p + ")";
            got = real.checkpoint(p);
            want = model.checkpoint(p);
        } else if (kind < 20) {
            call = "recover()";
            got = real.recover();
            want = model.recover();
        } else if (kind < 20 + crashes) {
            call = "crash(" + p + ")";
            got = real.crash(p);
            want = model.crash(p);
        } else {
            call = "reclaim()";
            got = real.reclaim();
            want = model.reclaim();
        }
        Checks.due("run " + run + " after " + path + ": " + call, got, want);
        return call;
    }
}
