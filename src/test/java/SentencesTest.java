/**
 * The document from its first line to its last: a method for each sentence that says what a
 * call answers or changes, under the sentence itself, with ordinary inputs. The lengths of the
 * orders were worked out by hand; what is due is read off them as the sentence says.
 */
public final class SentencesTest {
    private record Order(int first, int second, int third, int length) {
        int placeOf(int j) {
            return j == first ? 0 : j == second ? 1 : 2;
        }
    }

    /** Jobs 0, 1 and 2 of unlike(), and their orders in dictionary order: no two are equally long. */
    private static final int[][] UNLIKE = {{6, 5, 2}, {0, 6, 10}, {3, 3, 12}};
    private static final Order[] ORDERS_OF_UNLIKE = {
        new Order(0, 1, 2, 32),
        new Order(0, 2, 1, 30),
        new Order(1, 0, 2, 26),
        new Order(1, 2, 0, 21),
        new Order(2, 0, 1, 27),
        new Order(2, 1, 0, 22)};

    /** Three of the orders of tied() are the shortest, with 18: 1, 0, 2 and 1, 2, 0 and 2, 1, 0. */
    private static final int[][] TIED = {{6, 1, 1}, {4, 2, 12}, {0, 4, 0}};

    public static void main(String[] args) {
        terms();
        jobs();
        orders();
        fits();
        limits();
        Check.end();
    }

    private static void terms() {
        atMostSixJobs();
        anOrderHasAllPresentJobsOnce();
        eachBeginsAsEarlyAsItCan();
        lengthOfAnOrder();
        plansOfInterruptedJobs();
    }

    private static void jobs() {
        promise1NewObject();
        promise2AddsAJob();
        promise2Answers();
        promise3TakesAway();
        promise3Refuses();
        promise4GivesOtherNumbers();
        promise4Refuses();
        promise5Jobs();
        promise6Part();
        promise6Refuses();
    }

    private static void orders() {
        promise7Least();
        promise8FirstBestOrder();
        promise8Refuses();
        promise9Begins();
        promise9Refuses();
        promise10LeastWith();
        promise10Refuses();
        promise11LeastFirst();
        promise11Refuses();
        promise12Interrupted();
    }

    private static void fits() {
        promise13TailFor();
        promise13Refuses();
        promise14ReleaseFor();
        promise14Refuses();
    }

    private static void limits() {
        promise15BadBeforeFull();
        promise15RefusedChangesNothing();
    }

    private static HeadTail made(int[][] parts) {
        HeadTail x = new HeadTail();
        for (int[] each : parts) {
            x.add(each[0], each[1], each[2]);
        }
        return x;
    }

    private static HeadTail unlike() {
        return made(UNLIKE);
    }

    private static HeadTail tied() {
        return made(TIED);
    }

    private static void hasJobs(String at, HeadTail x, int[][] parts) {
        Check.due(at + ": jobs", x.jobs(), (1 << parts.length) - 1);
        for (int j = 0; j < parts.length; j++) {
            for (int what = 0; what < 3; what++) {
                Check.due(at + ": part(" + j + ", " + what + ")", x.part(j, what), parts[j][what]);
            }
        }
    }

    private static void isUnlike(String at, HeadTail x) {
        hasJobs(at, x, UNLIKE);
        Check.due(at + ": least", x.least(), 21);
        Check.due(at + ": interrupted", x.interrupted(), 19);
        Check.due(at + ": first", x.bestAt(0), 1);
        Check.due(at + ": last", x.bestAt(2), 0);
        Check.due(at + ": begins", x.begins(0), 9);
    }

    /**
     * "There are at most six JOBS, with numbers 0 .. 5, each with a release r (0 .. 40), a
     * length p (1 .. 12) and a tail q (0 .. 40)."
     */
    private static void atMostSixJobs() {
        int[][] six = {{0, 12, 40}, {40, 1, 0}, {7, 5, 19}, {33, 2, 8}, {21, 9, 37}, {11, 11, 11}};
        HeadTail x = made(six);
        hasJobs("six jobs", x, six);
        x.add(1, 1, 1);
        hasJobs("no seventh", x, six);
    }

    /** "An ORDER is a list of all present jobs, each once." */
    private static void anOrderHasAllPresentJobsOnce() {
        HeadTail x = made(new int[][] {{9, 3, 12}, {0, 7, 5}, {14, 5, 9}, {4, 2, 18}, {20, 6, 1}, {2, 4, 20}});
        listsJobs("six", x, 6, 0b111111);
        x.remove(3);
        listsJobs("without 3", x, 5, 0b110111);
        x.remove(0);
        listsJobs("without 0 and 3", x, 4, 0b110110);
        x.add(0, 1, 0);
        listsJobs("0 again", x, 5, 0b110111);
    }

    private static void listsJobs(String at, HeadTail x, int count, int due) {
        int seen = 0;
        for (int k = 0; k < count; k++) {
            int bit = 1 << x.bestAt(k);
            Check.due(at + ": place " + k + " is new", seen & bit, 0);
            seen |= bit;
        }
        Check.due(at + ": all of them", seen, due);
        Check.due(at + ": no more", x.bestAt(count), HeadTail.NONE);
    }

    /**
     * "In an order the jobs are done one after the other, each as early as it can be: it begins
     * at its release or when the job before it is done, whichever is later, and is done p later."
     */
    private static void eachBeginsAsEarlyAsItCan() {
        // Tails that fall by more than the jobs take keep the order 0, 1, 2, 3.
        HeadTail x = made(new int[][] {{3, 4, 40}, {5, 2, 28}, {17, 6, 14}, {20, 1, 0}});
        int[] due = {3, 7, 17, 23};
        for (int j = 0; j < 4; j++) {
            Check.due("one after the other: place " + j, x.bestAt(j), j);
            Check.due("one after the other: begins " + j, x.begins(j), due[j]);
        }
    }

    /**
     * "The LENGTH of the order is the greatest, over the jobs, of the time at which the job is
     * done plus its tail (0 when there are no jobs). The LEAST LENGTH is the least length of an
     * order."
     */
    private static void lengthOfAnOrder() {
        Check.due("length of no jobs", new HeadTail().least(), 0);
        // The greatest is that of the first, the middle and the last job in turn.
        Check.due("first job", made(new int[][] {{0, 4, 30}, {4, 5, 8}, {9, 2, 3}}).least(), 34);
        Check.due("middle job", made(new int[][] {{0, 4, 10}, {4, 5, 30}, {9, 2, 3}}).least(), 39);
        Check.due("last job", made(new int[][] {{0, 4, 10}, {4, 5, 8}, {9, 2, 30}}).least(), 41);
        Check.due("least of six orders", unlike().least(), 21);
    }

    /**
     * "When jobs may be INTERRUPTED, a plan gives every job p units of time [t, t + 1), t a whole
     * number not below its release, no unit to two jobs; a job is done at the end of its last
     * unit, and the length of the plan is again the greatest time of being done plus tail."
     */
    private static void plansOfInterruptedJobs() {
        // Job 2 takes units 3 .. 5 out of job 1, which is done at 9; then job 0 is done at 14.
        Check.due("one interruption", unlike().interrupted(), 19);
        // Job 0 has units 0, 1, 4, 5, 8, 9; jobs 1 and 2 have the two between at their releases.
        HeadTail x = made(new int[][] {{0, 6, 2}, {2, 2, 20}, {6, 2, 16}});
        Check.due("two interruptions", x.interrupted(), 24);
        x.change(0, 0, 6, 15);
        Check.due("the interrupted job is done at 10", x.interrupted(), 25);
        x.change(0, 1, 6, 15);
        Check.due("no unit before its release", x.interrupted(), 26);
        x.change(0, 0, 7, 15);
        Check.due("a unit more", x.interrupted(), 26);
        Check.due("no job", new HeadTail().interrupted(), 0);
    }

    /** Promise 1: "No jobs." */
    private static void promise1NewObject() {
        HeadTail x = new HeadTail();
        Check.due("1: jobs", x.jobs(), 0);
        for (int j = 0; j < 6; j++) {
            Check.due("1: part " + j, x.part(j, 0), HeadTail.NONE);
        }
        x.add(1, 2, 3);
        Check.due("1: jobs of another new one", new HeadTail().jobs(), 0);
    }

    /** Promise 2: "Adds a job." */
    private static void promise2AddsAJob() {
        HeadTail x = new HeadTail();
        x.add(6, 5, 2);
        hasJobs("2: one", x, new int[][] {UNLIKE[0]});
        Check.due("2: least of one", x.least(), 13);
        x.add(0, 6, 10);
        hasJobs("2: two", x, new int[][] {UNLIKE[0], UNLIKE[1]});
        Check.due("2: least of two", x.least(), 16);
        x.add(3, 3, 12);
        isUnlike("2: three", x);
    }

    /**
     * "Answers BAD when r is not 0 .. 40, p not 1 .. 12 or q not 0 .. 40; FULL when six are
     * there; otherwise the least number that no job has, which it gets."
     */
    private static void promise2Answers() {
        HeadTail x = new HeadTail();
        Check.due("2: r below", x.add(-7, 5, 5), HeadTail.BAD);
        Check.due("2: r above", x.add(55, 5, 5), HeadTail.BAD);
        Check.due("2: p below", x.add(5, -5, 5), HeadTail.BAD);
        Check.due("2: p above", x.add(5, 20, 5), HeadTail.BAD);
        Check.due("2: q below", x.add(5, 5, -7), HeadTail.BAD);
        Check.due("2: q above", x.add(5, 5, 55), HeadTail.BAD);
        for (int j = 0; j < 6; j++) {
            Check.due("2: number " + j, x.add(10 + j, 5, 5), j);
        }
        Check.due("2: full", x.add(5, 5, 5), HeadTail.FULL);
        x.remove(5);
        x.remove(2);
        x.remove(3);
        Check.due("2: least of 2, 3, 5", x.add(30, 1, 2), 2);
        Check.due("2: which it gets", x.part(2, 0), 30);
        Check.due("2: least of 3, 5", x.add(31, 1, 2), 3);
        Check.due("2: which it gets", x.part(3, 0), 31);
        Check.due("2: the last one", x.add(32, 1, 2), 5);
        Check.due("2: which it gets", x.part(5, 0), 32);
        Check.due("2: others keep theirs", x.part(4, 0), 14);
    }

    /** Promise 3: "Takes job j away and answers true" */
    private static void promise3TakesAway() {
        HeadTail x = unlike();
        Check.due("3: remove 1", x.remove(1), true);
        Check.due("3: jobs", x.jobs(), 0b101);
        Check.due("3: gone", x.part(1, 0), HeadTail.NONE);
        Check.due("3: others stay", x.part(2, 2), 12);
        // Job 2 from 3 to 6, then job 0 to 11.
        Check.due("3: least", x.least(), 18);
        Check.due("3: interrupted", x.interrupted(), 18);
        Check.due("3: first", x.bestAt(0), 2);
        Check.due("3: second", x.bestAt(1), 0);
        Check.due("3: two places", x.bestAt(2), HeadTail.NONE);
        Check.due("3: leastFirst", x.leastFirst(0), 26);
    }

    /** Promise 3: "false, changing nothing, when there is no job j." */
    private static void promise3Refuses() {
        HeadTail x = unlike();
        Check.due("3: no job 4", x.remove(4), false);
        isUnlike("3: after no job 4", x);
        Check.due("3: no job 17", x.remove(17), false);
        isUnlike("3: after no job 17", x);
        Check.due("3: no job -3", x.remove(-3), false);
        isUnlike("3: after no job -3", x);
    }

    /** Promise 4: "Gives job j another release, length and tail, and answers true" */
    private static void promise4GivesOtherNumbers() {
        HeadTail x = made(new int[][] {{6, 5, 2}, {31, 7, 29}, {3, 3, 12}});
        Check.due("4: least before", x.least(), 67);
        Check.due("4: change 1", x.change(1, 0, 6, 10), true);
        isUnlike("4: changed", x);
        Check.due("4: to the same", x.change(1, 0, 6, 10), true);
        isUnlike("4: changed to the same", x);
    }

    /**
     * Promise 4: "false, changing nothing, when there is no job j or a number is not in its
     * range (as in add)."
     */
    private static void promise4Refuses() {
        int[][] refused = {{3, 5, 5, 5}, {17, 5, 5, 5}, {-3, 5, 5, 5}, {1, -7, 5, 5}, {1, 55, 5, 5},
            {1, 5, -5, 5}, {1, 5, 20, 5}, {1, 5, 5, -7}, {1, 5, 5, 55}};
        for (int[] each : refused) {
            String at = "4: change(" + each[0] + ", " + each[1] + ", " + each[2] + ", " + each[3] + ")";
            HeadTail x = unlike();
            Check.due(at, x.change(each[0], each[1], each[2], each[3]), false);
            isUnlike(at, x);
        }
    }

    /** Promise 5: "The jobs: bit j for job j." */
    private static void promise5Jobs() {
        HeadTail x = made(new int[][] {{1, 1, 1}, {2, 2, 2}, {3, 3, 3}, {4, 4, 4}, {5, 5, 5}, {6, 6, 6}});
        Check.due("5: all", x.jobs(), 1 + 2 + 4 + 8 + 16 + 32);
        x.remove(4);
        Check.due("5: without 4", x.jobs(), 1 + 2 + 4 + 8 + 32);
        x.remove(1);
        Check.due("5: without 1, 4", x.jobs(), 1 + 4 + 8 + 32);
        x.add(7, 7, 7);
        Check.due("5: without 4", x.jobs(), 1 + 2 + 4 + 8 + 32);
        x.change(0, 7, 7, 7);
        Check.due("5: changed", x.jobs(), 1 + 2 + 4 + 8 + 32);
    }

    /** Promise 6: "The release (what 0), length (what 1) or tail (what 2) of job j" */
    private static void promise6Part() {
        HeadTail x = unlike();
        Check.due("6: release of 0", x.part(0, 0), 6);
        Check.due("6: length of 0", x.part(0, 1), 5);
        Check.due("6: tail of 0", x.part(0, 2), 2);
        Check.due("6: release of 1", x.part(1, 0), 0);
        Check.due("6: length of 1", x.part(1, 1), 6);
        Check.due("6: tail of 1", x.part(1, 2), 10);
    }

    /** Promise 6: "NONE when there is no job j or what is something else." */
    private static void promise6Refuses() {
        HeadTail x = unlike();
        for (int what = 0; what < 3; what++) {
            Check.due("6: no job 3", x.part(3, what), HeadTail.NONE);
            Check.due("6: no job -1", x.part(-1, what), HeadTail.NONE);
            Check.due("6: no job 6", x.part(6, what), HeadTail.NONE);
        }
        Check.due("6: what -1", x.part(1, -1), HeadTail.NONE);
        Check.due("6: what 3", x.part(1, 3), HeadTail.NONE);
        Check.due("6: what 12", x.part(1, 12), HeadTail.NONE);
    }

    /** Promise 7: "The least length; 0 when there are no jobs." */
    private static void promise7Least() {
        HeadTail x = new HeadTail();
        Check.due("7: none", x.least(), 0);
        x.add(6, 5, 2);
        Check.due("7: one", x.least(), 13);
        Check.due("7: three", unlike().least(), 21);
        Check.due("7: three, tied", tied().least(), 18);
    }

    /**
     * Promise 8: "The job at place k (0 the first) of the FIRST BEST ORDER: of the orders whose
     * length is the least length, the least in the dictionary order."
     */
    private static void promise8FirstBestOrder() {
        isOrder("8: one best", unlike(), 1, 2, 0);
        isOrder("8: three best", tied(), 1, 0, 2);
        // The dictionary goes by the numbers, not by which job was added first.
        HeadTail x = tied();
        x.remove(0);
        x.remove(2);
        x.add(0, 4, 0);
        x.add(6, 1, 1);
        // Now 0 is (0, 4, 0) and 2 is (6, 1, 1): best are 0, 1, 2 and 1, 0, 2 and 1, 2, 0.
        isOrder("8: two added anew", x, 0, 1, 2);
    }

    private static void isOrder(String at, HeadTail x, int first, int second, int third) {
        Check.due(at + ": place 0", x.bestAt(0), first);
        Check.due(at + ": place 1", x.bestAt(1), second);
        Check.due(at + ": place 2", x.bestAt(2), third);
    }

    /** Promise 8: "NONE when k is not from 0 to the number of jobs - 1." */
    private static void promise8Refuses() {
        HeadTail x = unlike();
        Check.due("8: place 3 of three", x.bestAt(3), HeadTail.NONE);
        Check.due("8: place 5 of three", x.bestAt(5), HeadTail.NONE);
        Check.due("8: place -2", x.bestAt(-2), HeadTail.NONE);
        x.remove(0);
        // Job 2 is there, but place 2 is not.
        Check.due("8: place 2 of two", x.bestAt(2), HeadTail.NONE);
    }

    /** Promise 9: "When job j begins in the first best order" */
    private static void promise9Begins() {
        HeadTail x = unlike();
        Check.due("9: job 1", x.begins(1), 0);
        Check.due("9: job 2", x.begins(2), 6);
        Check.due("9: job 0", x.begins(0), 9);
        // In the other two best orders job 2 begins at 6 and at 0.
        HeadTail y = tied();
        Check.due("9: tied, job 1", y.begins(1), 4);
        Check.due("9: tied, job 0", y.begins(0), 6);
        Check.due("9: tied, job 2", y.begins(2), 7);
    }

    /** Promise 9: "NONE when there is no job j." */
    private static void promise9Refuses() {
        HeadTail x = unlike();
        Check.due("9: no job 3", x.begins(3), HeadTail.NONE);
        Check.due("9: no job -2", x.begins(-2), HeadTail.NONE);
        x.remove(1);
        Check.due("9: no job 1 any more", x.begins(1), HeadTail.NONE);
    }

    /** Promise 10: "The least length of an order in which job i comes before job j (somewhere)" */
    private static void promise10LeastWith() {
        HeadTail x = unlike();
        for (int i = 0; i < 3; i++) {
            for (int j = 0; j < 3; j++) {
                int due = i == j ? HeadTail.NONE : leastHaving(i, j);
                Check.due("10: leastWith(" + i + ", " + j + ")", x.leastWith(i, j), due);
            }
        }
    }

    private static int leastHaving(int before, int after) {
        int least = Integer.MAX_VALUE;
        for (Order each : ORDERS_OF_UNLIKE) {
            if (each.placeOf(before) < each.placeOf(after)) {
                least = Math.min(least, each.length);
            }
        }
        return least;
    }

    /** Promise 10: "NONE when there is no job i or j, or i = j." */
    private static void promise10Refuses() {
        HeadTail x = unlike();
        Check.due("10: no job i", x.leastWith(3, 1), HeadTail.NONE);
        Check.due("10: no job j", x.leastWith(1, 3), HeadTail.NONE);
        Check.due("10: neither", x.leastWith(4, 3), HeadTail.NONE);
        Check.due("10: i below", x.leastWith(-1, 2), HeadTail.NONE);
        Check.due("10: j below", x.leastWith(2, -1), HeadTail.NONE);
        Check.due("10: i = j", x.leastWith(2, 2), HeadTail.NONE);
        x.remove(0);
        Check.due("10: i gone", x.leastWith(0, 1), HeadTail.NONE);
        Check.due("10: j gone", x.leastWith(1, 0), HeadTail.NONE);
    }

    /** Promise 11: "The least length of an order that begins with job j" */
    private static void promise11LeastFirst() {
        HeadTail x = unlike();
        for (int j = 0; j < 3; j++) {
            int due = Integer.MAX_VALUE;
            for (Order each : ORDERS_OF_UNLIKE) {
                due = each.first == j ? Math.min(due, each.length) : due;
            }
            Check.due("11: leastFirst(" + j + ")", x.leastFirst(j), due);
        }
    }

    /** Promise 11: "NONE when there is no job j." */
    private static void promise11Refuses() {
        HeadTail x = unlike();
        Check.due("11: no job 3", x.leastFirst(3), HeadTail.NONE);
        Check.due("11: no job -2", x.leastFirst(-2), HeadTail.NONE);
        x.remove(2);
        Check.due("11: no job 2 any more", x.leastFirst(2), HeadTail.NONE);
    }

    /** Promise 12: "The least length of a plan when jobs may be interrupted; 0 when there are no jobs." */
    private static void promise12Interrupted() {
        HeadTail x = new HeadTail();
        Check.due("12: none", x.interrupted(), 0);
        x.add(6, 5, 2);
        Check.due("12: one", x.interrupted(), 13);
        Check.due("12: three", unlike().interrupted(), 19);
        Check.due("12: three, tied", tied().interrupted(), 18);
        isUnlike("12: changes nothing", unlikeAfterAsking());
    }

    private static HeadTail unlikeAfterAsking() {
        HeadTail x = unlike();
        x.interrupted();
        x.leastFirst(0);
        x.leastWith(0, 1);
        x.tailFor(1, 30);
        x.releaseFor(1, 30);
        return x;
    }

    /**
     * Promise 13: "The greatest tail, from 0 to 200, that job j could have, all else as it is,
     * for which the least length would not be above n; NONE when there is none"
     */
    private static void promise13TailFor() {
        HeadTail x = unlike();
        // Jobs 1 and 2 need 21 when neither waits for job 0, which is then done at 14, and 26
        // when job 0 is done between them, at 11.
        isTail(x, 0, 20, HeadTail.NONE);
        isTail(x, 0, 21, 7);
        isTail(x, 0, 25, 11);
        isTail(x, 0, 26, 15);
        isTail(x, 0, 30, 19);
        isTail(x, 0, 211, 200);
        isTail(x, 0, 212, 200);
        // Job 1 is done at 17 behind the others, at 12 between 2 and 0, and at 6 as the first.
        isTail(x, 1, 17, HeadTail.NONE);
        isTail(x, 1, 18, 1);
        isTail(x, 1, 19, 7);
        isTail(x, 1, 20, 8);
        isTail(x, 1, 21, 15);
        // Job 2 is done at 9 between 1 and 0, and at 6 as the first, which brings job 1 to 22.
        isTail(x, 2, 15, HeadTail.NONE);
        isTail(x, 2, 16, 7);
        isTail(x, 2, 21, 12);
        isTail(x, 2, 22, 16);
        isUnlike("13: all else as it is", x);
    }

    private static void isTail(HeadTail x, int j, int n, int due) {
        Check.due("13: tailFor(" + j + ", " + n + ")", x.tailFor(j, n), due);
    }

    /** Promise 13: "or there is no job j." */
    private static void promise13Refuses() {
        HeadTail x = unlike();
        isTail(x, 3, 100, HeadTail.NONE);
        isTail(x, -2, 100, HeadTail.NONE);
        x.remove(1);
        isTail(x, 1, 100, HeadTail.NONE);
    }

    /**
     * Promise 14: "The greatest release, from 0 to 200, that job j could have, all else as it
     * is, for which the least length would not be above n; NONE when there is none"
     */
    private static void promise14ReleaseFor() {
        HeadTail x = unlike();
        isRelease(x, 0, 20, HeadTail.NONE);
        isRelease(x, 0, 21, 14);
        isRelease(x, 0, 25, 18);
        isRelease(x, 0, 206, 199);
        isRelease(x, 0, 207, 200);
        isRelease(x, 0, 208, 200);
        // As the first, job 1 must begin at 0 for job 2 to keep within 21; behind 2 it begins at 6.
        isRelease(x, 1, 20, HeadTail.NONE);
        isRelease(x, 1, 21, 0);
        isRelease(x, 1, 22, 6);
        isRelease(x, 1, 27, 11);
        // Job 2 as the first must leave job 1 enough time; between 1 and 0 it begins at 6.
        isRelease(x, 2, 18, HeadTail.NONE);
        isRelease(x, 2, 19, 0);
        isRelease(x, 2, 20, 1);
        isRelease(x, 2, 21, 6);
        isRelease(x, 2, 26, 11);
        isUnlike("14: all else as it is", x);
    }

    private static void isRelease(HeadTail x, int j, int n, int due) {
        Check.due("14: releaseFor(" + j + ", " + n + ")", x.releaseFor(j, n), due);
    }

    /** Promise 14: "or there is no job j." */
    private static void promise14Refuses() {
        HeadTail x = unlike();
        isRelease(x, 3, 100, HeadTail.NONE);
        isRelease(x, -2, 100, HeadTail.NONE);
        x.remove(1);
        isRelease(x, 1, 100, HeadTail.NONE);
    }

    /** Promise 15: "add: BAD is tested before FULL." */
    private static void promise15BadBeforeFull() {
        HeadTail x = made(new int[][] {{1, 1, 1}, {2, 2, 2}, {3, 3, 3}, {4, 4, 4}, {5, 5, 5}, {6, 6, 6}});
        Check.due("15: full", x.add(5, 5, 5), HeadTail.FULL);
        Check.due("15: r 55", x.add(55, 5, 5), HeadTail.BAD);
        Check.due("15: p 20", x.add(5, 20, 5), HeadTail.BAD);
        Check.due("15: q -7", x.add(5, 5, -7), HeadTail.BAD);
    }

    /**
     * Promise 15: "A call that is refused, because a number is not as said there, something is
     * not there, or a limit is reached, changes nothing."
     */
    private static void promise15RefusedChangesNothing() {
        HeadTail x = unlike();
        x.add(55, 5, 5);
        x.remove(3);
        x.change(1, 5, 20, 5);
        x.part(1, 3);
        x.bestAt(3);
        x.begins(3);
        x.leastWith(1, 3);
        x.leastFirst(3);
        x.tailFor(1, 3);
        x.tailFor(3, 100);
        x.releaseFor(1, 3);
        x.releaseFor(3, 100);
        isUnlike("15: refused", x);
        Check.due("15: the next number", x.add(40, 1, 0), 3);
        int[][] six = {{0, 12, 40}, {40, 1, 0}, {7, 5, 19}, {33, 2, 8}, {21, 9, 37}, {11, 11, 11}};
        HeadTail full = made(six);
        int least = full.least();
        full.add(0, 12, 40);
        hasJobs("15: the limit", full, six);
        Check.due("15: the limit: least", full.least(), least);
    }
}
