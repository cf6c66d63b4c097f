/** Many runs of mixed calls, each answer compared with that of the slow desk. */
public final class CompareTest {
    private static final Checks CHECKS = new Checks("CompareTest");
    private static final int RUNS = 1500;
    private static final int CALLS = 512;
    private static final long[] EDGES = {Long.MIN_VALUE, Long.MIN_VALUE + 1, -1, 0, 1,
        1L << 32, Long.MAX_VALUE - 1, Long.MAX_VALUE};

    private long state;
    private final SerialDesk desk = new SerialDesk();
    private final SlowDesk slow = new SlowDesk();
    private final int tables;
    private final int columns;
    private final int wrongOnceIn;
    private final int abortsOnceIn;
    /** In a crowded run session 0 never ends, and others come and go, so that many are kept. */
    private final boolean crowded;
    private int begun = 0;

    private CompareTest(int run) {
        state = run * 7919L + 17;
        tables = 1 + pick(3) * pick(4);
        columns = 1 + pick(3);
        wrongOnceIn = 10 + pick(60);
        abortsOnceIn = 2 + pick(12);
        crowded = run % 3 == 0;
    }

    public static void main(String[] args) {
        for (int run = 0; run < RUNS && CHECKS.wrong() < 20; run++) {
            CompareTest test = new CompareTest(run);
            for (int call = 0; call < CALLS; call++) {
                test.step("run " + run + " call " + call + " ");
            }
            CHECKS.due("run " + run + " rings", test.desk.rings(), test.slow.rings());
        }
        CHECKS.end();
    }

    /** The same numbers in every run of the tests, so that a fault can be found again. */
    private int pick(int below) {
        state = state * 6364136223846793005L + 1442695040888963407L;
        return (int) ((state >>> 33) % below);
    }

    private boolean wrongNow() {
        return pick(wrongOnceIn) == 0;
    }

    private int session() {
        return wrongNow() ? pick(9) - 1 : pick(6);
    }

    private int table() {
        return wrongNow() ? pick(10) - 1 : pick(tables) % 8;
    }

    private int column() {
        return wrongNow() ? pick(11) - 2 : pick(columns);
    }

    private int id() {
        return wrongNow() ? pick(600) - 2 : Math.max(1, begun - pick(crowded ? 90 : 14));
    }

    private long value() {
        return wrongNow() ? EDGES[pick(EDGES.length)] : pick(6);
    }

    private void step(String at) {
        int kind = pick(20);
        if (crowded && pick(2) == 0) {
            beginOrEnd(at, kind % 2 == 0);
        } else if (kind < 3) {
            begin(at);
        } else if (kind < 6) {
            read(at);
        } else if (kind < 8) {
            fill(at);
        } else if (kind < 12) {
            writeOrMiss(at, kind % 2 == 0);
        } else if (kind < 14) {
            end(at);
        } else {
            ask(at);
        }
    }

    private void beginOrEnd(String at, boolean begin) {
        if (begin) {
            begin(at);
        } else {
            end(at);
        }
    }

    private void begin(String at) {
        int s = session();
        int want = slow.begin(s);
        begun = Math.max(begun, want);
        CHECKS.due(at + "begin(" + s + ")", desk.begin(s), want);
    }

    private void read(String at) {
        int s = session();
        int t = table();
        int c = pick(30) == 0 ? -1 : column();
        long low = value();
        long high = value();
        int b = wrongNow() ? pick(18) - 1 : pick(16);
        String call = "read(" + s + ", " + t + ", " + c + ", " + low + ", " + high + ", " + b + ")";
        CHECKS.due(at + call, desk.read(s, t, c, low, high, b), slow.read(s, t, c, low, high, b));
    }

    private void fill(String at) {
        if (pick(6) == 0) {
            desk.clear();
            slow.clear();
            return;
        }
        int c = column();
        long v = value();
        CHECKS.due(at + "cell(" + c + ", " + v + ")", desk.cell(c, v), slow.cell(c, v));
    }

    private void writeOrMiss(String at, boolean write) {
        int s = session();
        if (write) {
            int t = table();
            CHECKS.due(at + "write(" + s + ", " + t + ")", desk.write(s, t), slow.write(s, t));
        } else {
            int id = id();
            CHECKS.due(at + "miss(" + s + ", " + id + ")", desk.miss(s, id), slow.miss(s, id));
        }
    }

    private void end(String at) {
        int s = crowded ? 1 + pick(5) : session();
        int kind = pick(abortsOnceIn * 4);
        if (kind < 4) {
            abort(at, s);
        } else if (kind == 4) {
            CHECKS.due(at + "doom(" + s + ")", desk.doom(s), slow.doom(s));
        } else {
            int want = slow.commit(s);
            CHECKS.due(at + "commit(" + s + ")", desk.commit(s), want);
            if (want == 0 && pick(4) > 0) {
                abort(at, s);
            }
        }
    }

    private void abort(String at, int s) {
        CHECKS.due(at + "abort(" + s + ")", desk.abort(s), slow.abort(s));
    }

    private void ask(String at) {
        int kind = pick(8);
        if (kind == 0) {
            int what = pick(5) - 1;
            CHECKS.due(at + "count(" + what + ")", desk.count(what), slow.count(what));
        } else if (kind < 4) {
            int a = id();
            int b = id();
            CHECKS.due(at + "arrow(" + a + ", " + b + ")", desk.arrow(a, b), slow.arrow(a, b));
        } else {
            int id = id();
            int what = wrongNow() ? pick(9) - 2 : pick(6);
            CHECKS.due(at + "look(" + id + ", " + what + ")", desk.look(id, what),
                    slow.look(id, what));
        }
    }
}
