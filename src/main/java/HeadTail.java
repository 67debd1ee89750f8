/** Orders jobs on one machine when each has a release before it and a tail after it. */
public final class HeadTail {
    public static final int BAD = -1;
    public static final int FULL = -2;
    public static final int NONE = -1;

    private static final int MOST_JOBS = 6;
    private static final int MOST_ORDERS = 720;
    private static final int GREATEST_RELEASE = 40;
    private static final int GREATEST_LENGTH = 12;
    private static final int GREATEST_TAIL = 40;

    // Once every job is released no unit stays idle, so no plan made here goes on longer.
    private static final int MOST_UNITS = GREATEST_RELEASE + MOST_JOBS * GREATEST_LENGTH;

    // tailFor and releaseFor look beyond what add takes.
    private static final int GREATEST_SOUGHT = 200;
    private static final int FIRST_STEP = 128;

    // Stands for "no such demand" where a search over orders takes a job.
    private static final int ANY = -1;

    private static final int ABOVE_EVERY_LENGTH = 1000000;

    private final boolean[] present = new boolean[MOST_JOBS];
    private final int[] release = new int[MOST_JOBS];
    private final int[] length = new int[MOST_JOBS];
    private final int[] tail = new int[MOST_JOBS];
    private int count;

    private final int[] order = new int[MOST_JOBS];
    private final int[] bestOrder = new int[MOST_JOBS];
    private final int[] unitsLeft = new int[MOST_JOBS];

    public HeadTail() {
        count = 0;
    }

    public int add(int r, int p, int q) {
        if (!inRange(r, p, q)) {
            return BAD;
        }
        for (int j = 0; j < MOST_JOBS; j++) {
            if (!present[j]) {
                present[j] = true;
                count++;
                write(j, r, p, q);
                return j;
            }
        }
        return FULL;
    }

    public boolean remove(int j) {
        if (!isJob(j)) {
            return false;
        }
        present[j] = false;
        count--;
        return true;
    }

    public boolean change(int j, int r, int p, int q) {
        if (!isJob(j) || !inRange(r, p, q)) {
            return false;
        }
        write(j, r, p, q);
        return true;
    }

    public int jobs() {
        int bits = 0;
        for (int j = 0; j < MOST_JOBS; j++) {
            if (present[j]) {
                bits |= 1 << j;
            }
        }
        return bits;
    }

    public int part(int j, int what) {
        if (!isJob(j)) {
            return NONE;
        }
        switch (what) {
            case 0:
                return release[j];
            case 1:
                return length[j];
            case 2:
                return tail[j];
            default:
                return NONE;
        }
    }

    public int least() {
        return search(ANY, ANY, ANY);
    }

    public int bestAt(int k) {
        if (k < 0 || k >= count) {
            return NONE;
        }
        search(ANY, ANY, ANY);
        return bestOrder[k];
    }

    public int begins(int j) {
        if (!isJob(j)) {
            return NONE;
        }
        search(ANY, ANY, ANY);
        int free = 0;
        for (int k = 0; k < count; k++) {
            int job = bestOrder[k];
            int begin = later(free, release[job]);
            if (job == j) {
                return begin;
            }
            free = begin + length[job];
        }
        return NONE;
    }

    public int leastWith(int i, int j) {
        if (!isJob(i) || !isJob(j) || i == j) {
            return NONE;
        }
        return search(ANY, i, j);
    }

    public int leastFirst(int j) {
        if (!isJob(j)) {
            return NONE;
        }
        return search(j, ANY, ANY);
    }

    public int interrupted() {
        for (int j = 0; j < MOST_JOBS; j++) {
            unitsLeft[j] = present[j] ? length[j] : 0;
        }
        int longest = 0;
        for (int t = 0; t < MOST_UNITS; t++) {
            int job = mostPressing(t);
            if (job != NONE) {
                unitsLeft[job]--;
                // Units before the last one end earlier, so they never raise the answer.
                longest = later(longest, t + 1 + tail[job]);
            }
        }
        return longest;
    }

    public int tailFor(int j, int n) {
        return isJob(j) ? greatestFitting(tail, j, n) : NONE;
    }

    public int releaseFor(int j, int n) {
        return isJob(j) ? greatestFitting(release, j, n) : NONE;
    }

    private boolean isJob(int j) {
        return j >= 0 && j < MOST_JOBS && present[j];
    }

    private boolean inRange(int r, int p, int q) {
        return r >= 0 && r <= GREATEST_RELEASE
            && p >= 1 && p <= GREATEST_LENGTH
            && q >= 0 && q <= GREATEST_TAIL;
    }

    private void write(int j, int r, int p, int q) {
        release[j] = r;
        length[j] = p;
        tail[j] = q;
    }

    private int later(int a, int b) {
        return a > b ? a : b;
    }

    /**
     * The least length of an order that begins with job first and has job before
     * somewhere before job after, and that order in bestOrder. The orders come in
     * dictionary order and only a shorter one replaces the one kept, so of several
     * that are equally short the first is kept.
     */
    private int search(int first, int before, int after) {
        int shortest = ABOVE_EVERY_LENGTH;
        startOrders();
        boolean more = true;
        for (int n = 0; n < MOST_ORDERS && more; n++) {
            if (isWanted(first, before, after)) {
                int found = orderLength();
                if (found < shortest) {
                    shortest = found;
                    keepOrder();
                }
            }
            more = nextOrder();
        }
        return shortest;
    }

    private void startOrders() {
        int k = 0;
        for (int j = 0; j < MOST_JOBS; j++) {
            if (present[j]) {
                order[k] = j;
                k++;
            }
        }
    }

    private boolean isWanted(int first, int before, int after) {
        if (first != ANY && order[0] != first) {
            return false;
        }
        return before == ANY || comesBefore(before, after);
    }

    private boolean comesBefore(int i, int j) {
        for (int k = 0; k < count; k++) {
            if (order[k] == i) {
                return true;
            }
            if (order[k] == j) {
                return false;
            }
        }
        return false;
    }

    private int orderLength() {
        int free = 0;
        int longest = 0;
        for (int k = 0; k < count; k++) {
            int job = order[k];
            free = later(free, release[job]) + length[job];
            longest = later(longest, free + tail[job]);
        }
        return longest;
    }

    private void keepOrder() {
        for (int k = 0; k < count; k++) {
            bestOrder[k] = order[k];
        }
    }

    /** Turns the order into the next one of the dictionary order; false when it was the last. */
    private boolean nextOrder() {
        int turn = lastRise();
        if (turn < 0) {
            return false;
        }
        int above = lastAbove(turn);
        swap(turn, above);
        reverseAfter(turn);
        return true;
    }

    private int lastRise() {
        for (int k = count - 2; k >= 0; k--) {
            if (order[k] < order[k + 1]) {
                return k;
            }
        }
        return -1;
    }

    private int lastAbove(int turn) {
        for (int k = count - 1; k > turn; k--) {
            if (order[k] > order[turn]) {
                return k;
            }
        }
        return turn;
    }

    private void reverseAfter(int turn) {
        int high = count - 1;
        for (int low = turn + 1; low < high; low++) {
            swap(low, high);
            high--;
        }
    }

    private void swap(int a, int b) {
        int kept = order[a];
        order[a] = order[b];
        order[b] = kept;
    }

    /**
     * The job to work on in the unit that begins at t. Giving every unit to the released
     * job with the greatest tail makes the shortest plan: exchanging units never helps.
     */
    private int mostPressing(int t) {
        int chosen = NONE;
        for (int j = 0; j < MOST_JOBS; j++) {
            if (unitsLeft[j] > 0 && release[j] <= t) {
                if (chosen == NONE || tail[j] > tail[chosen]) {
                    chosen = j;
                }
            }
        }
        return chosen;
    }

    /**
     * The greatest value for job j in numbers (the tails or the releases) that keeps the
     * least length from being above n. A greater tail or release shortens no order, so the
     * values that fit are all those up to the answer, and halving steps find it.
     */
    private int greatestFitting(int[] numbers, int j, int n) {
        int kept = numbers[j];
        int greatest = NONE;
        for (int step = FIRST_STEP; step > 0; step /= 2) {
            int tried = greatest + step;
            if (tried <= GREATEST_SOUGHT) {
                numbers[j] = tried;
                if (search(ANY, ANY, ANY) <= n) {
                    greatest = tried;
                }
            }
        }
        numbers[j] = kept;
        return greatest;
    }
}
