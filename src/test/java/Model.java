import java.util.ArrayList;
import java.util.List;

/**
 * The document's words, followed without any thought for speed and by other ways than
 * HeadTail takes: orders by recursion, tails and releases tried one by one, and the
 * interrupted plan by the known bound over sets of jobs.
 */
final class Model {
    final int[][] job = new int[6][];

    static boolean fits(int r, int p, int q) {
        return 0 <= r && r <= 40 && 1 <= p && p <= 12 && 0 <= q && q <= 40;
    }

    boolean has(int j) {
        return 0 <= j && j <= 5 && job[j] != null;
    }

    int add(int r, int p, int q) {
        if (!fits(r, p, q)) {
            return -1;
        }
        for (int j = 0; j < 6; j++) {
            if (job[j] == null) {
                job[j] = new int[] {r, p, q};
                return j;
            }
        }
        return -2;
    }

    boolean remove(int j) {
        if (!has(j)) {
            return false;
        }
        job[j] = null;
        return true;
    }

    boolean change(int j, int r, int p, int q) {
        if (!has(j) || !fits(r, p, q)) {
            return false;
        }
        job[j] = new int[] {r, p, q};
        return true;
    }

    int jobs() {
        int bits = 0;
        for (int j = 0; j < 6; j++) {
            bits += has(j) ? (int) Math.pow(2, j) : 0;
        }
        return bits;
    }

    int part(int j, int what) {
        return has(j) && 0 <= what && what <= 2 ? job[j][what] : -1;
    }

    /** All orders, in dictionary order. */
    List<List<Integer>> orders() {
        List<List<Integer>> all = new ArrayList<>();
        extend(new ArrayList<>(), all);
        return all;
    }

    private void extend(List<Integer> begun, List<List<Integer>> all) {
        boolean whole = true;
        for (int j = 0; j < 6; j++) {
            if (has(j) && !begun.contains(j)) {
                whole = false;
                begun.add(j);
                extend(begun, all);
                begun.remove(begun.size() - 1);
            }
        }
        if (whole) {
            all.add(new ArrayList<>(begun));
        }
    }

    int begin(List<Integer> order, int j) {
        int free = 0;
        for (int each : order) {
            int begin = Math.max(free, job[each][0]);
            if (each == j) {
                return begin;
            }
            free = begin + job[each][1];
        }
        throw new IllegalArgumentException("job " + j + " is not in " + order);
    }

    int length(List<Integer> order) {
        int longest = 0;
        int free = 0;
        for (int each : order) {
            free = Math.max(free, job[each][0]) + job[each][1];
            longest = Math.max(longest, free + job[each][2]);
        }
        return longest;
    }

    int least() {
        return orders().stream().mapToInt(this::length).min().getAsInt();
    }

    List<Integer> firstBest() {
        int least = least();
        return orders().stream().filter(o -> length(o) == least).findFirst().get();
    }

    int bestAt(int k) {
        List<Integer> best = firstBest();
        return 0 <= k && k < best.size() ? best.get(k) : -1;
    }

    int begins(int j) {
        return has(j) ? begin(firstBest(), j) : -1;
    }

    int leastWith(int i, int j) {
        if (!has(i) || !has(j) || i == j) {
            return -1;
        }
        return orders().stream().filter(o -> o.indexOf(i) < o.indexOf(j)).mapToInt(this::length).min().getAsInt();
    }

    int leastFirst(int j) {
        if (!has(j)) {
            return -1;
        }
        return orders().stream().filter(o -> o.get(0) == j).mapToInt(this::length).min().getAsInt();
    }

    /** The greatest, over the sets of jobs, of least release + sum of lengths + least tail. */
    int interrupted() {
        int greatest = 0;
        for (int set = 1; set < 64; set++) {
            int release = Integer.MAX_VALUE;
            int sum = 0;
            int tail = Integer.MAX_VALUE;
            for (int j = 0; j < 6; j++) {
                if ((set >> j & 1) == 1 && has(j)) {
                    release = Math.min(release, job[j][0]);
                    sum += job[j][1];
                    tail = Math.min(tail, job[j][2]);
                }
            }
            if (sum > 0) {
                greatest = Math.max(greatest, release + sum + tail);
            }
        }
        return greatest;
    }

    int tailFor(int j, int n) {
        return greatest(j, 2, n);
    }

    int releaseFor(int j, int n) {
        return greatest(j, 0, n);
    }

    private int greatest(int j, int what, int n) {
        if (!has(j)) {
            return -1;
        }
        List<List<Integer>> all = orders();
        int kept = job[j][what];
        int answer = -1;
        for (int tried = 0; tried <= 200; tried++) {
            job[j][what] = tried;
            if (all.stream().anyMatch(o -> length(o) <= n)) {
                answer = tried;
            }
        }
        job[j][what] = kept;
        return answer;
    }
}
