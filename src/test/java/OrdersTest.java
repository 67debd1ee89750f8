/** Promises 7 to 14 on runs whose answers were worked out by hand. */
public final class OrdersTest {
    private static final int LOW = Integer.MIN_VALUE;
    private static final int HIGH = Integer.MAX_VALUE;
    private static final int[] ABSENT = {2, 5, 6, -1, LOW, HIGH};

    public static void main(String[] args) {
        promise7Least();
        promise8BestAt();
        onlyTheLastOrderIsBest();
        promise9Begins();
        promise10LeastWith();
        promise11LeastFirst();
        promise12Interrupted();
        promise13TailFor();
        promise14ReleaseFor();
        Check.end();
    }

    /** Job 0 could begin at once, but job 1 with its long tail is better awaited. */
    private static HeadTail awaited() {
        HeadTail x = new HeadTail();
        x.add(0, 12, 0);
        x.add(1, 1, 40);
        return x;
    }

    private static HeadTail alike(int n) {
        HeadTail x = new HeadTail();
        for (int j = 0; j < n; j++) {
            x.add(3, 2, 1);
        }
        return x;
    }

    private static void promise7Least() {
        HeadTail x = new HeadTail();
        Check.due("7 none", x.least(), 0);
        x.add(5, 6, 7);
        Check.due("7 one", x.least(), 18);
        Check.due("7 awaited", awaited().least(), 42);
        Check.due("7 alike", alike(6).least(), 16);
        HeadTail most = new HeadTail();
        for (int j = 0; j < 6; j++) {
            most.add(40, 12, 40);
        }
        Check.due("7 greatest", most.least(), 152);
        most.remove(3);
        Check.due("7 after remove", most.least(), 140);
        most.change(0, 0, 1, 0);
        Check.due("7 after change", most.least(), 128);
    }

    private static void promise8BestAt() {
        HeadTail x = awaited();
        Check.due("8 first", x.bestAt(0), 1);
        Check.due("8 second", x.bestAt(1), 0);
        for (int k : ABSENT) {
            Check.due("8 place " + k, x.bestAt(k), HeadTail.NONE);
        }
        HeadTail same = alike(6);
        for (int k = 0; k < 6; k++) {
            Check.due("8 least in the dictionary " + k, same.bestAt(k), k);
        }
        same.remove(0);
        same.remove(3);
        Check.due("8 gap 0", same.bestAt(0), 1);
        Check.due("8 gap 1", same.bestAt(1), 2);
        Check.due("8 gap 2", same.bestAt(2), 4);
        Check.due("8 gap 3", same.bestAt(3), 5);
        Check.due("8 gap 4", same.bestAt(4), HeadTail.NONE);
    }

    /** Every job has to begin at its release, so 5, 4, 3, 2, 1, 0 alone is best. */
    private static void onlyTheLastOrderIsBest() {
        HeadTail x = new HeadTail();
        for (int j = 0; j < 6; j++) {
            x.add(8 * (5 - j), 8, 8 * j);
        }
        Check.due("7 last order", x.least(), 48);
        for (int k = 0; k < 6; k++) {
            Check.due("8 last order " + k, x.bestAt(k), 5 - k);
            Check.due("9 last order " + k, x.begins(k), 8 * (5 - k));
        }
        Check.due("10 last order", x.leastWith(5, 0), 48);
        Check.due("11 last order", x.leastFirst(5), 48);
        Check.due("13 last order", x.tailFor(0, 48), 0);
        Check.due("14 last order", x.releaseFor(0, 48), 40);
    }

    private static void promise9Begins() {
        HeadTail x = awaited();
        Check.due("9 job 0", x.begins(0), 2);
        Check.due("9 job 1", x.begins(1), 1);
        for (int j : ABSENT) {
            Check.due("9 job " + j, x.begins(j), HeadTail.NONE);
        }
        x.add(30, 5, 0);
        Check.due("9 at its release", x.begins(2), 30);
        HeadTail same = alike(6);
        for (int j = 0; j < 6; j++) {
            Check.due("9 alike " + j, same.begins(j), 3 + 2 * j);
        }
        same.remove(1);
        Check.due("9 removed", same.begins(1), HeadTail.NONE);
        Check.due("9 moved up", same.begins(5), 11);
    }

    private static void promise10LeastWith() {
        HeadTail x = awaited();
        Check.due("10 0, 1", x.leastWith(0, 1), 53);
        Check.due("10 1, 0", x.leastWith(1, 0), 42);
        Check.due("10 0, 0", x.leastWith(0, 0), HeadTail.NONE);
        Check.due("10 2, 2", x.leastWith(2, 2), HeadTail.NONE);
        for (int j : ABSENT) {
            Check.due("10 0, " + j, x.leastWith(0, j), HeadTail.NONE);
            Check.due("10 " + j + ", 0", x.leastWith(j, 0), HeadTail.NONE);
        }
        // 1, 2, 0 holds 2 before 0 without either being first, and 1 before 0 apart from it.
        x.add(2, 1, 39);
        Check.due("10 2, 0", x.leastWith(2, 0), 42);
        Check.due("10 1, 0 apart", x.leastWith(1, 0), 42);
        Check.due("10 2, 1", x.leastWith(2, 1), 44);
    }

    private static void promise11LeastFirst() {
        HeadTail x = awaited();
        Check.due("11 job 0", x.leastFirst(0), 53);
        Check.due("11 job 1", x.leastFirst(1), 42);
        for (int j : ABSENT) {
            Check.due("11 job " + j, x.leastFirst(j), HeadTail.NONE);
        }
        HeadTail one = new HeadTail();
        one.add(5, 6, 7);
        Check.due("11 alone", one.leastFirst(0), 18);
    }

    private static void promise12Interrupted() {
        HeadTail x = new HeadTail();
        Check.due("12 none", x.interrupted(), 0);
        x.add(0, 10, 10);
        Check.due("12 one", x.interrupted(), 20);
        // Units 0 .. 4 and 6 .. 10 for job 0, unit 5 for job 1: 11 + 10 against 6 + 15.
        x.add(5, 1, 15);
        Check.due("12 two", x.interrupted(), 21);
        Check.due("12 not interrupted", x.least(), 26);
        x.remove(0);
        Check.due("12 removed", x.interrupted(), 21);
        HeadTail most = new HeadTail();
        for (int j = 0; j < 6; j++) {
            most.add(40, 12, 40);
        }
        Check.due("12 greatest", most.interrupted(), 152);
    }

    private static void promise13TailFor() {
        HeadTail x = awaited();
        Check.due("13 as it is", x.tailFor(1, 42), 40);
        Check.due("13 one less", x.tailFor(1, 41), 39);
        Check.due("13 other job", x.tailFor(0, 42), 28);
        Check.due("13 other job bound", x.tailFor(0, 41), HeadTail.NONE);
        // Job 1 first ends job 0 at 14; within 13 only the other order fits, within 12 none.
        Check.due("13 job 1 first", x.tailFor(1, 14), 12);
        Check.due("13 other order", x.tailFor(1, 13), 0);
        Check.due("13 no order", x.tailFor(1, 12), HeadTail.NONE);
        Check.due("13 at 199", x.tailFor(1, 201), 199);
        Check.due("13 at 200", x.tailFor(1, 202), 200);
        Check.due("13 above 200", x.tailFor(1, 203), 200);
        Check.due("13 high", x.tailFor(1, HIGH), 200);
        Check.due("13 low", x.tailFor(1, LOW), HeadTail.NONE);
        Check.due("13 n -1", x.tailFor(1, -1), HeadTail.NONE);
        Check.due("13 n 0", x.tailFor(1, 0), HeadTail.NONE);
        for (int j : ABSENT) {
            Check.due("13 job " + j, x.tailFor(j, HIGH), HeadTail.NONE);
        }
        Check.due("13 leaves the tail", x.part(1, 2), 40);
        Check.due("13 leaves the least length", x.least(), 42);
    }

    private static void promise14ReleaseFor() {
        HeadTail x = awaited();
        Check.due("14 job 0", x.releaseFor(0, 42), 30);
        Check.due("14 job 1", x.releaseFor(1, 42), 1);
        Check.due("14 job 1 at 0", x.releaseFor(1, 41), 0);
        Check.due("14 job 1 never", x.releaseFor(1, 40), HeadTail.NONE);
        Check.due("14 before job 0", x.releaseFor(1, 52), 11);
        Check.due("14 at 199", x.releaseFor(0, 211), 199);
        Check.due("14 at 200", x.releaseFor(0, 212), 200);
        Check.due("14 above 200", x.releaseFor(0, 213), 200);
        Check.due("14 high", x.releaseFor(0, HIGH), 200);
        Check.due("14 low", x.releaseFor(0, LOW), HeadTail.NONE);
        Check.due("14 n 0", x.releaseFor(0, 0), HeadTail.NONE);
        for (int j : ABSENT) {
            Check.due("14 job " + j, x.releaseFor(j, HIGH), HeadTail.NONE);
        }
        Check.due("14 leaves the release", x.part(1, 0), 1);
        Check.due("14 leaves the least length", x.least(), 42);
    }
}
