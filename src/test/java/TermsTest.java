/** The edges in the sentences of 'Terms', each seen through the answers that rest on it. */
public final class TermsTest {
    public static void main(String[] args) {
        beginsAtTheLaterOfTwo();
        isDoneItsLengthLater();
        lengthIsTheGreatestOverTheJobs();
        lengthOfNoJobsIsZero();
        leastLengthIsOfTheShortestOrder();
        firstBestOrderIsTheFirstOfEqualOnes();
        greatestAndLeastLengths();
        unitsBeginAtTheRelease();
        everyJobGetsItsUnits();
        noUnitGoesToTwoJobs();
        doneAtTheEndOfTheLastUnit();
        Check.end();
    }

    /** "it begins at its release or when the job before it is done, whichever is later" */
    private static void beginsAtTheLaterOfTwo() {
        for (int r = 0; r <= 40; r++) {
            HeadTail x = new HeadTail();
            // The tail of job 0 puts it first: it is done at 7.
            x.add(2, 5, 40);
            x.add(r, 3, 0);
            Check.due("job 0 begins, r " + r, x.begins(0), 2);
            Check.due("job 1 begins, r " + r, x.begins(1), r < 7 ? 7 : r);
        }
        for (int r = 0; r <= 40; r++) {
            HeadTail x = new HeadTail();
            x.add(r, 1, 0);
            Check.due("alone it begins, r " + r, x.begins(0), r);
        }
    }

    /** "and is done p later" */
    private static void isDoneItsLengthLater() {
        for (int p = 1; p <= 12; p++) {
            HeadTail x = new HeadTail();
            x.add(2, p, 40);
            x.add(2, 3, 0);
            Check.due("after p " + p, x.begins(1), 2 + p);
            Check.due("length, p " + p, x.least(), 42 + p);
        }
    }

    /** "the greatest, over the jobs, of the time at which the job is done plus its tail" */
    private static void lengthIsTheGreatestOverTheJobs() {
        // Far apart, the jobs are done at 2, 12 and 22.
        apart(0, 0, 0, 22);
        apart(40, 0, 0, 42);
        apart(0, 40, 0, 52);
        apart(0, 0, 40, 62);
        apart(40, 30, 20, 42);
        apart(39, 30, 20, 42);
        apart(40, 31, 20, 43);
        apart(40, 30, 21, 43);
        apart(20, 9, 0, 22);
        apart(21, 10, 0, 23);
    }

    private static void apart(int q0, int q1, int q2, int due) {
        String at = "tails " + q0 + ", " + q1 + ", " + q2;
        HeadTail x = new HeadTail();
        x.add(0, 2, q0);
        x.add(10, 2, q1);
        x.add(20, 2, q2);
        Check.due(at + ": least", x.least(), due);
        Check.due(at + ": interrupted", x.interrupted(), due);
        Check.due(at + ": leastFirst", x.leastFirst(0), due);
        Check.due(at + ": leastWith", x.leastWith(0, 2), due);
    }

    /** "(0 when there are no jobs)", new, and again when the last one is gone. */
    private static void lengthOfNoJobsIsZero() {
        HeadTail x = new HeadTail();
        Check.due("new: least", x.least(), 0);
        Check.due("new: interrupted", x.interrupted(), 0);
        for (int n = 0; n < 3; n++) {
            x.add(40, 12, 40);
            Check.due("one: least", x.least(), 92);
            Check.due("one: interrupted", x.interrupted(), 92);
            x.remove(0);
            Check.due("none again: least", x.least(), 0);
            Check.due("none again: interrupted", x.interrupted(), 0);
        }
        x.add(40, 12, 40);
        x.add(40, 12, 40);
        x.remove(0);
        Check.due("the other: least", x.least(), 92);
        x.remove(1);
        Check.due("both gone: least", x.least(), 0);
        Check.due("both gone: interrupted", x.interrupted(), 0);
    }

    /** "The LEAST LENGTH is the least length of an order", were it shorter by 1 only. */
    private static void leastLengthIsOfTheShortestOrder() {
        HeadTail x = new HeadTail();
        x.add(0, 2, 0);
        x.add(0, 2, 1);
        Check.due("1 before 0: least", x.least(), 4);
        Check.due("1 before 0: first", x.bestAt(0), 1);
        Check.due("0 before 1", x.leastWith(0, 1), 5);
        x.change(0, 0, 2, 1);
        Check.due("equal: least", x.least(), 5);
        Check.due("equal: first", x.bestAt(0), 0);
    }

    /** Promise 8: "of the orders whose length is the least length, the least in the dictionary order" */
    private static void firstBestOrderIsTheFirstOfEqualOnes() {
        HeadTail x = new HeadTail();
        for (int j = 0; j < 6; j++) {
            x.add(0, 1, 0);
        }
        // Job 3 must be done at 1; all others may stand in any order behind it.
        x.change(3, 0, 1, 5);
        int[] due = {3, 0, 1, 2, 4, 5};
        for (int k = 0; k < 6; k++) {
            Check.due("3 first, place " + k, x.bestAt(k), due[k]);
            Check.due("3 first, begins " + due[k], x.begins(due[k]), k);
        }
        // One unit less and it may be done at 2 as well.
        x.change(3, 0, 1, 4);
        int[] later = {0, 3, 1, 2, 4, 5};
        for (int k = 0; k < 6; k++) {
            Check.due("3 second, place " + k, x.bestAt(k), later[k]);
            Check.due("3 second, begins " + later[k], x.begins(later[k]), k);
        }
    }

    private static void greatestAndLeastLengths() {
        HeadTail most = Edges.alike(63, 40, 12, 40);
        Check.due("greatest: least", most.least(), 152);
        Check.due("greatest: interrupted", most.interrupted(), 152);
        Check.due("greatest: begins", most.begins(5), 100);
        Check.due("greatest: leastFirst", most.leastFirst(5), 152);
        Check.due("greatest: leastWith", most.leastWith(5, 0), 152);
        HeadTail fewest = Edges.alike(63, 0, 1, 0);
        Check.due("shortest: least", fewest.least(), 6);
        Check.due("shortest: interrupted", fewest.interrupted(), 6);
        HeadTail gap = new HeadTail();
        gap.add(0, 1, 0);
        gap.add(40, 12, 40);
        Check.due("gap: least", gap.least(), 92);
        Check.due("gap: interrupted", gap.interrupted(), 92);
        Check.due("gap: leastWith", gap.leastWith(1, 0), 92);
    }

    /** "t a whole number not below its release" */
    private static void unitsBeginAtTheRelease() {
        for (int r = 0; r <= 40; r++) {
            HeadTail x = new HeadTail();
            x.add(r, 1, 0);
            Check.due("alone, r " + r, x.interrupted(), r + 1);
            // It waits for no unit before its release, and the other one does not wait for it.
            x.add(0, 1, 0);
            Check.due("beside another, r " + r, x.interrupted(), r == 0 ? 2 : r + 1);
        }
    }

    /** "a plan gives every job p units of time" */
    private static void everyJobGetsItsUnits() {
        for (int p = 1; p <= 12; p++) {
            HeadTail x = new HeadTail();
            x.add(4, p, 3);
            Check.due("one, p " + p, x.interrupted(), 4 + p + 3);
            for (int j = 2; j <= 6; j++) {
                x.add(4, p, 3);
                Check.due("job count " + j + ", p " + p, x.interrupted(), 4 + j * p + 3);
            }
        }
    }

    /** "no unit to two jobs" */
    private static void noUnitGoesToTwoJobs() {
        HeadTail x = new HeadTail();
        x.add(0, 12, 0);
        for (int j = 1; j < 6; j++) {
            x.add(2 * j, 1, 12);
            Check.due("job count " + (j + 1), x.interrupted(), 2 * j + 13);
        }
        // The 17 units from 0 on are all given, so job 0 is done at 17 and the last other at 11.
        x.change(0, 0, 12, 6);
        Check.due("all units and tail 6", x.interrupted(), 23);
        x.change(0, 0, 12, 7);
        Check.due("all units and tail 7", x.interrupted(), 24);
    }

    /** "a job is done at the end of its last unit" */
    private static void doneAtTheEndOfTheLastUnit() {
        for (int r = 0; r <= 40; r++) {
            HeadTail x = new HeadTail();
            x.add(0, 10, 10);
            x.add(r, 1, 15);
            // Up to r 9 job 1 takes a unit out of job 0, which is then done at 11.
            Check.due("taken out at " + r, x.interrupted(), r <= 5 ? 21 : r + 16);
        }
    }
}
