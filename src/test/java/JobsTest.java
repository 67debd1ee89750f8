/** Promises 1 to 6 and 15: which jobs there are, and what calls that are refused leave alone. */
public final class JobsTest {
    private static final int LOW = Integer.MIN_VALUE;
    private static final int HIGH = Integer.MAX_VALUE;

    public static void main(String[] args) {
        promise1NewObject();
        promise2Add();
        promise2AddRanges();
        promise3Remove();
        promise4Change();
        promise5Jobs();
        promise6Part();
        promise15BadBeforeFull();
        promise15RefusedChangesNothing();
        objectsAreApart();
        Check.end();
    }

    private static void promise1NewObject() {
        HeadTail x = new HeadTail();
        Check.due("1 jobs", x.jobs(), 0);
        Check.due("1 least", x.least(), 0);
        Check.due("1 interrupted", x.interrupted(), 0);
        for (int j = -1; j <= 6; j++) {
            Check.due("1 part " + j, x.part(j, 1), HeadTail.NONE);
            Check.due("1 bestAt " + j, x.bestAt(j), HeadTail.NONE);
            Check.due("1 begins " + j, x.begins(j), HeadTail.NONE);
            Check.due("1 leastFirst " + j, x.leastFirst(j), HeadTail.NONE);
            Check.due("1 leastWith " + j, x.leastWith(j, 1), HeadTail.NONE);
            Check.due("1 tailFor " + j, x.tailFor(j, 100), HeadTail.NONE);
            Check.due("1 releaseFor " + j, x.releaseFor(j, 100), HeadTail.NONE);
            Check.due("1 remove " + j, x.remove(j), false);
            Check.due("1 change " + j, x.change(j, 1, 1, 1), false);
        }
        Check.due("1 jobs after refusals", x.jobs(), 0);
    }

    private static void promise2Add() {
        HeadTail x = new HeadTail();
        for (int j = 0; j < 6; j++) {
            Check.due("2 add " + j, x.add(j, j + 1, 2 * j), j);
            Check.due("2 jobs " + j, x.jobs(), (2 << j) - 1);
        }
        Check.due("2 full", x.add(1, 1, 1), HeadTail.FULL);
        x.remove(4);
        x.remove(1);
        Check.due("2 least free number", x.add(7, 8, 9), 1);
        Check.due("2 next free number", x.add(17, 2, 3), 4);
        Check.due("2 full again", x.add(1, 1, 1), HeadTail.FULL);
        isJob("2 job 1", x, 1, 7, 8, 9);
        isJob("2 job 4", x, 4, 17, 2, 3);
        isJob("2 job 5", x, 5, 5, 6, 10);
    }

    private static void promise2AddRanges() {
        HeadTail x = new HeadTail();
        int[] badEnds = {-1, 41, LOW, HIGH};
        for (int bad : badEnds) {
            Check.due("2 r " + bad, x.add(bad, 1, 1), HeadTail.BAD);
            Check.due("2 q " + bad, x.add(1, 1, bad), HeadTail.BAD);
        }
        int[] badLengths = {0, -1, 13, LOW, HIGH};
        for (int bad : badLengths) {
            Check.due("2 p " + bad, x.add(1, bad, 1), HeadTail.BAD);
        }
        Check.due("2 nothing added", x.jobs(), 0);
        Check.due("2 least numbers", x.add(0, 1, 0), 0);
        Check.due("2 greatest numbers", x.add(40, 12, 40), 1);
        isJob("2 least numbers", x, 0, 0, 1, 0);
        isJob("2 greatest numbers", x, 1, 40, 12, 40);
    }

    private static void promise3Remove() {
        HeadTail x = three();
        Check.due("3 absent 3", x.remove(3), false);
        Check.due("3 absent -1", x.remove(-1), false);
        Check.due("3 absent 6", x.remove(6), false);
        Check.due("3 absent low", x.remove(LOW), false);
        Check.due("3 absent high", x.remove(HIGH), false);
        Check.due("3 all still there", x.jobs(), 7);
        Check.due("3 remove 1", x.remove(1), true);
        Check.due("3 remove 1 again", x.remove(1), false);
        Check.due("3 jobs", x.jobs(), 5);
        Check.due("3 part", x.part(1, 0), HeadTail.NONE);
        isJob("3 job 0", x, 0, 1, 2, 3);
        isJob("3 job 2", x, 2, 7, 8, 9);
        Check.due("3 remove 0", x.remove(0), true);
        Check.due("3 remove 2", x.remove(2), true);
        Check.due("3 empty", x.jobs(), 0);
        Check.due("3 empty least", x.least(), 0);
        Check.due("3 empty interrupted", x.interrupted(), 0);
        Check.due("3 empty bestAt", x.bestAt(0), HeadTail.NONE);
    }

    private static void promise4Change() {
        HeadTail x = three();
        Check.due("4 change", x.change(1, 40, 12, 40), true);
        isJob("4 greatest", x, 1, 40, 12, 40);
        Check.due("4 change", x.change(1, 0, 1, 0), true);
        isJob("4 least", x, 1, 0, 1, 0);
        int[] absent = {3, 5, 6, -1, LOW, HIGH};
        for (int j : absent) {
            Check.due("4 absent " + j, x.change(j, 1, 1, 1), false);
        }
        int[] badEnds = {-1, 41, LOW, HIGH};
        for (int bad : badEnds) {
            Check.due("4 r " + bad, x.change(2, bad, 1, 1), false);
            Check.due("4 q " + bad, x.change(2, 1, 1, bad), false);
        }
        int[] badLengths = {0, -1, 13, LOW, HIGH};
        for (int bad : badLengths) {
            Check.due("4 p " + bad, x.change(2, 1, bad, 1), false);
        }
        isJob("4 left alone", x, 0, 1, 2, 3);
        isJob("4 left alone", x, 1, 0, 1, 0);
        isJob("4 left alone", x, 2, 7, 8, 9);
        Check.due("4 jobs", x.jobs(), 7);
    }

    private static void promise5Jobs() {
        HeadTail x = new HeadTail();
        for (int j = 0; j < 6; j++) {
            x.add(0, 1, 0);
        }
        Check.due("5 all", x.jobs(), 63);
        x.remove(0);
        Check.due("5 without 0", x.jobs(), 62);
        x.remove(5);
        Check.due("5 without 0, 5", x.jobs(), 30);
        x.remove(2);
        Check.due("5 without 0, 2, 5", x.jobs(), 26);
        x.add(0, 1, 0);
        Check.due("5 without 2, 5", x.jobs(), 27);
    }

    private static void promise6Part() {
        HeadTail x = three();
        isJob("6", x, 1, 4, 5, 6);
        int[] others = {-1, 3, LOW, HIGH};
        for (int what : others) {
            Check.due("6 what " + what, x.part(1, what), HeadTail.NONE);
        }
        int[] absent = {-1, 3, 5, 6, LOW, HIGH};
        for (int j : absent) {
            for (int what = -1; what <= 3; what++) {
                Check.due("6 absent " + j, x.part(j, what), HeadTail.NONE);
            }
        }
    }

    private static void promise15BadBeforeFull() {
        HeadTail x = new HeadTail();
        for (int j = 0; j < 6; j++) {
            x.add(3, 2, 1);
        }
        Check.due("15 bad r", x.add(41, 1, 1), HeadTail.BAD);
        Check.due("15 bad p", x.add(1, 0, 1), HeadTail.BAD);
        Check.due("15 bad q", x.add(1, 1, -1), HeadTail.BAD);
        Check.due("15 full", x.add(1, 1, 1), HeadTail.FULL);
    }

    private static void promise15RefusedChangesNothing() {
        HeadTail x = new HeadTail();
        for (int j = 0; j < 6; j++) {
            x.add(3 * j, j + 1, 20 - j);
        }
        x.add(0, 12, 40);
        x.add(-1, 12, 40);
        x.change(3, 0, 13, 0);
        x.change(6, 0, 1, 0);
        x.remove(6);
        x.remove(-1);
        x.bestAt(6);
        x.begins(6);
        x.leastWith(2, 2);
        x.leastFirst(-1);
        x.tailFor(6, 10);
        x.releaseFor(-1, 10);
        x.tailFor(2, -5);
        x.releaseFor(2, -5);
        // Those that are answered look at other tails and releases, but leave none behind.
        x.tailFor(4, 90);
        x.releaseFor(4, 90);
        Check.due("15 jobs", x.jobs(), 63);
        for (int j = 0; j < 6; j++) {
            isJob("15 job", x, j, 3 * j, j + 1, 20 - j);
        }
    }

    private static void objectsAreApart() {
        HeadTail x = three();
        HeadTail y = new HeadTail();
        y.add(9, 9, 9);
        Check.due("x jobs", x.jobs(), 7);
        Check.due("y jobs", y.jobs(), 1);
        isJob("x", x, 0, 1, 2, 3);
        isJob("y", y, 0, 9, 9, 9);
    }

    private static HeadTail three() {
        HeadTail x = new HeadTail();
        x.add(1, 2, 3);
        x.add(4, 5, 6);
        x.add(7, 8, 9);
        return x;
    }

    private static void isJob(String where, HeadTail x, int j, int r, int p, int q) {
        Check.due(where + ": release of " + j, x.part(j, 0), r);
        Check.due(where + ": length of " + j, x.part(j, 1), p);
        Check.due(where + ": tail of " + j, x.part(j, 2), q);
    }
}
