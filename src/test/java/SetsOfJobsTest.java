/**
 * Every one of the 64 sets of jobs, from none to six: what is answered for the jobs that are
 * there, for the numbers that no job has, and for numbers that no job can have. All jobs are
 * (3, 2, 1), so the first best order has them by their numbers, each beginning when the one
 * before is done, and n of them take 3 + 2n + 1.
 */
public final class SetsOfJobsTest {
    public static void main(String[] args) {
        newObjectHasNone();
        for (int set = 0; set < 64; set++) {
            HeadTail x = Edges.alike(set, 3, 2, 1);
            jobsBits(x, set);
            leastLength(x, set);
            bestAtPlaces(x, set);
            beginsOfJobs(x, set);
            leastFirstOfJobs(x, set);
            interruptedLength(x, set);
            leastWithOfJobs(set);
            fitsOfJobs(set);
        }
        Check.end();
    }

    /** Promise 1: "No jobs." */
    private static void newObjectHasNone() {
        HeadTail x = new HeadTail();
        jobsBits(x, 0);
        leastLength(x, 0);
        bestAtPlaces(x, 0);
        beginsOfJobs(x, 0);
        leastFirstOfJobs(x, 0);
        interruptedLength(x, 0);
        Check.due("new: leastWith", x.leastWith(0, 1), HeadTail.NONE);
        Check.due("new: tailFor", x.tailFor(0, 200), HeadTail.NONE);
        Check.due("new: releaseFor", x.releaseFor(0, 200), HeadTail.NONE);
        Check.due("new: remove", x.remove(0), false);
        Check.due("new: change", x.change(0, 1, 1, 1), false);
        Check.due("new: first number", x.add(1, 1, 1), 0);
    }

    private static int lengthOf(int set) {
        return set == 0 ? 0 : 3 + 2 * Integer.bitCount(set) + 1;
    }

    /** Promise 5: "bit j for job j". */
    private static void jobsBits(HeadTail x, int set) {
        Check.due("set " + set + ": jobs", x.jobs(), set);
    }

    /** Promise 7: "0 when there are no jobs". */
    private static void leastLength(HeadTail x, int set) {
        Check.due("set " + set + ": least", x.least(), lengthOf(set));
    }

    /** Promise 12: "0 when there are no jobs". */
    private static void interruptedLength(HeadTail x, int set) {
        Check.due("set " + set + ": interrupted", x.interrupted(), lengthOf(set));
    }

    /** Promise 8: "NONE when k is not from 0 to the number of jobs - 1"; Terms: "each once". */
    private static void bestAtPlaces(HeadTail x, int set) {
        int k = 0;
        for (int j = 0; j < 6; j++) {
            if (Edges.has(set, j)) {
                Check.due("set " + set + ": bestAt " + k, x.bestAt(k), j);
                k++;
            }
        }
        for (int beyond = k; beyond <= 6; beyond++) {
            Check.due("set " + set + ": bestAt " + beyond, x.bestAt(beyond), HeadTail.NONE);
        }
        for (int outside : Edges.NO_JOBS) {
            Check.due("set " + set + ": bestAt " + outside, x.bestAt(outside), HeadTail.NONE);
        }
    }

    /** Promise 9: "NONE when there is no job j". */
    private static void beginsOfJobs(HeadTail x, int set) {
        int time = 3;
        for (int j = 0; j < 6; j++) {
            boolean there = Edges.has(set, j);
            Check.due("set " + set + ": begins " + j, x.begins(j), there ? time : HeadTail.NONE);
            time += there ? 2 : 0;
        }
        for (int j : Edges.NO_JOBS) {
            Check.due("set " + set + ": begins " + j, x.begins(j), HeadTail.NONE);
        }
    }

    /** Promise 11: "NONE when there is no job j". */
    private static void leastFirstOfJobs(HeadTail x, int set) {
        for (int j = 0; j < 6; j++) {
            int due = Edges.has(set, j) ? lengthOf(set) : HeadTail.NONE;
            Check.due("set " + set + ": leastFirst " + j, x.leastFirst(j), due);
        }
        for (int j : Edges.NO_JOBS) {
            Check.due("set " + set + ": leastFirst " + j, x.leastFirst(j), HeadTail.NONE);
        }
    }

    /** Promise 10: "NONE when there is no job i or j, or i = j". */
    private static void leastWithOfJobs(int set) {
        HeadTail x = Edges.alike(set, 3, 2, 1);
        for (int i = 0; i < 6; i++) {
            for (int j = 0; j < 6; j++) {
                boolean both = Edges.has(set, i) && Edges.has(set, j) && i != j;
                int due = both ? lengthOf(set) : HeadTail.NONE;
                Check.due("set " + set + ": leastWith " + i + ", " + j, x.leastWith(i, j), due);
            }
        }
        for (int outside : Edges.NO_JOBS) {
            String at = "set " + set + ": leastWith, " + outside + ", ";
            for (int j = 0; j < 6; j++) {
                Check.due(at + j, x.leastWith(outside, j), HeadTail.NONE);
                Check.due(at + "after " + j, x.leastWith(j, outside), HeadTail.NONE);
            }
            Check.due(at + "both", x.leastWith(outside, outside), HeadTail.NONE);
        }
        Check.due("set " + set + ": leastWith the ends", x.leastWith(Edges.LOW, Edges.HIGH), HeadTail.NONE);
        Check.due("set " + set + ": leastWith -1, 6", x.leastWith(-1, 6), HeadTail.NONE);
    }

    /** Promises 13 and 14: "NONE when ... there is no job j"; 200 when there is and all fits. */
    private static void fitsOfJobs(int set) {
        HeadTail x = Edges.alike(set, 3, 2, 1);
        for (int n : new int[] {300, Edges.HIGH}) {
            for (int j = 0; j < 6; j++) {
                int due = Edges.has(set, j) ? 200 : HeadTail.NONE;
                Check.due("set " + set + ": tailFor " + j + ", " + n, x.tailFor(j, n), due);
                Check.due("set " + set + ": releaseFor " + j + ", " + n, x.releaseFor(j, n), due);
            }
            for (int j : Edges.NO_JOBS) {
                Check.due("set " + set + ": tailFor " + j + ", " + n, x.tailFor(j, n), HeadTail.NONE);
                Check.due("set " + set + ": releaseFor " + j + ", " + n, x.releaseFor(j, n), HeadTail.NONE);
            }
        }
    }
}
