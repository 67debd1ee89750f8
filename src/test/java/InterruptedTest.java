import java.util.HashMap;
import java.util.Map;

/** Promise 12 from its words: for small jobs, the least length over every plan there is. */
public final class InterruptedTest {
    private static final int JOBS = 4;
    private static final int LAST_RELEASE = 6;
    private static final int LONGEST = 3;

    private static long seed = 12;

    public static void main(String[] args) {
        for (int n = 0; n < 500; n++) {
            HeadTail x = new HeadTail();
            int[] r = new int[JOBS];
            int[] p = new int[JOBS];
            int[] q = new int[JOBS];
            StringBuilder told = new StringBuilder("interrupted with");
            for (int j = 0; j < JOBS; j++) {
                r[j] = next(LAST_RELEASE + 1);
                p[j] = 1 + next(LONGEST);
                q[j] = next(10);
                x.add(r[j], p[j], q[j]);
                told.append(" (").append(r[j]).append(", ").append(p[j]).append(", ").append(q[j]).append(")");
            }
            Check.due(told.toString(), x.interrupted(), best(0, p.clone(), r, q, new HashMap<>()));
        }
        Check.end();
    }

    /** The least length of a plan for what is left from time t on: every choice for unit t is tried. */
    private static int best(int t, int[] left, int[] r, int[] q, Map<Integer, Integer> known) {
        int key = t;
        int sum = 0;
        for (int each : left) {
            key = key * (LONGEST + 1) + each;
            sum += each;
        }
        if (sum == 0) {
            return 0;
        }
        // A plan that goes on longer has an idle unit after all releases, and can do without it.
        if (t >= LAST_RELEASE + JOBS * LONGEST) {
            return Integer.MAX_VALUE;
        }
        if (known.containsKey(key)) {
            return known.get(key);
        }
        int least = best(t + 1, left, r, q, known);
        for (int j = 0; j < left.length; j++) {
            if (left[j] > 0 && r[j] <= t) {
                left[j]--;
                int done = left[j] == 0 ? t + 1 + q[j] : 0;
                least = Math.min(least, Math.max(done, best(t + 1, left, r, q, known)));
                left[j]++;
            }
        }
        known.put(key, least);
        return least;
    }

    private static int next(int bound) {
        seed = seed * 6364136223846793005L + 1442695040888963407L;
        return (int) ((seed >>> 33) % bound);
    }
}
