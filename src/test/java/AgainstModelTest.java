/** All promises: long mixed runs of calls, each answer beside the one of the plain Model. */
public final class AgainstModelTest {
    private static final int RUNS = 90;
    private static final int CALLS = 512;
    private static final int[] ODD = {Integer.MIN_VALUE, -1, 6, 13, 41, 200, 201, Integer.MAX_VALUE};

    private static long seed;

    public static void main(String[] args) {
        for (int run = 0; run < RUNS; run++) {
            seed = run;
            run(run);
        }
        Check.end();
    }

    private static void run(int run) {
        HeadTail x = new HeadTail();
        Model m = new Model();
        // Narrow ranges make many orders equally long; wide ones make them differ.
        int spread = run % 3 == 0 ? 4 : run % 3 == 1 ? 15 : 40;
        for (int n = 0; n < CALLS; n++) {
            call("run " + run + ", call " + n + ": ", x, m, spread);
        }
    }

    private static void call(String at, HeadTail x, Model m, int spread) {
        int kind = next(16);
        int j = number(0, 5);
        int i = number(0, 5);
        int r = number(0, spread);
        int p = number(1, 1 + Math.min(spread, 11));
        int q = number(0, spread);
        int n = kind < 14 ? 0 : bound(m);
        String numbers = "(i " + i + ", j " + j + ", r " + r + ", p " + p + ", q " + q + ", n " + n + ")";
        switch (kind) {
            case 0, 1, 2 -> Check.due(at + "add" + numbers, x.add(r, p, q), m.add(r, p, q));
            case 3 -> Check.due(at + "remove" + numbers, x.remove(j), m.remove(j));
            case 4, 5 -> Check.due(at + "change" + numbers, x.change(j, r, p, q), m.change(j, r, p, q));
            case 6 -> Check.due(at + "jobs", x.jobs(), m.jobs());
            case 7 -> {
                int what = number(0, 2);
                Check.due(at + "part " + what + numbers, x.part(j, what), m.part(j, what));
            }
            case 8 -> Check.due(at + "least", x.least(), m.least());
            case 9 -> Check.due(at + "bestAt" + numbers, x.bestAt(j), m.bestAt(j));
            case 10 -> Check.due(at + "begins" + numbers, x.begins(j), m.begins(j));
            case 11 -> Check.due(at + "leastWith" + numbers, x.leastWith(i, j), m.leastWith(i, j));
            case 12 -> Check.due(at + "leastFirst" + numbers, x.leastFirst(j), m.leastFirst(j));
            case 13 -> Check.due(at + "interrupted", x.interrupted(), m.interrupted());
            case 14 -> Check.due(at + "tailFor" + numbers, x.tailFor(j, n), m.tailFor(j, n));
            default -> Check.due(at + "releaseFor" + numbers, x.releaseFor(j, n), m.releaseFor(j, n));
        }
    }

    /** Mostly near the least length, where the answers differ. */
    private static int bound(Model m) {
        return next(8) == 0 ? number(0, 260) : m.least() + next(31) - 10;
    }

    /** Mostly a number from low to high, now and then one that is likely out of its range. */
    private static int number(int low, int high) {
        return next(25) == 0 ? ODD[next(ODD.length)] : low + next(high - low + 1);
    }

    private static int next(int bound) {
        seed = seed * 6364136223846793005L + 1442695040888963407L;
        return (int) ((seed >>> 33) % bound);
    }
}
