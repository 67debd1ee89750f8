/** Numbers that lie outside the document's ranges, from the first one outside to the ends of int. */
final class Edges {
    static final int LOW = Integer.MIN_VALUE;
    static final int HIGH = Integer.MAX_VALUE;

    // Beside the first ones outside: numbers that a shift (32, 33, -32), a byte (256, -251) or
    // a short (65536) would take for a number inside.
    static final int[] NO_JOBS = {
        -1, 6, 7, -2, 31, 32, 33, 37, -32, 64, 256, -251, 65536, 1 << 30, LOW, LOW + 1, HIGH - 1, HIGH};
    static final int[] NO_TIMES = {-1, 41, 42, -40, 64, 256, -216, 65536, LOW, LOW + 1, HIGH - 1, HIGH};
    static final int[] NO_LENGTHS = {0, 13, -1, 14, -12, 257, -244, 65537, LOW, LOW + 1, HIGH - 1, HIGH};
    static final int[] NO_PARTS = {-1, 3, 4, -2, 32, 256, 65536, LOW, LOW + 1, HIGH - 1, HIGH};

    private Edges() {
    }

    /** An object with the six jobs (r, p, q) of which those whose bit is not in set were taken away. */
    static HeadTail alike(int set, int r, int p, int q) {
        HeadTail x = new HeadTail();
        for (int j = 0; j < 6; j++) {
            x.add(r, p, q);
        }
        keepOnly(x, set);
        return x;
    }

    static void keepOnly(HeadTail x, int set) {
        for (int j = 0; j < 6; j++) {
            if (!has(set, j)) {
                x.remove(j);
            }
        }
    }

    static boolean has(int set, int j) {
        return 0 <= j && j < 6 && (set >> j & 1) == 1;
    }
}
