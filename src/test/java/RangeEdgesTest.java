/**
 * The ranges of 'Terms' and of promises 2, 4, 6 and 15: every number inside is taken, the
 * first one outside on either side and those far out are refused.
 */
public final class RangeEdgesTest {
    public static void main(String[] args) {
        addTakesEveryNumberInside();
        addIsBadForReleases();
        addIsBadForLengths();
        addIsBadForTails();
        addIsBadForSeveral();
        addIsFullAtSix();
        addIsBadBeforeFull();
        addGivesTheLeastFreeNumber();
        removeKnowsJobsZeroToFive();
        changeTakesEveryNumberInside();
        changeRefusesNumbersOutside();
        changeKnowsJobsZeroToFive();
        partAnswersThreeParts();
        partKnowsJobsZeroToFive();
        Check.end();
    }

    /** Terms: "a release r (0 .. 40), a length p (1 .. 12) and a tail q (0 .. 40)". */
    private static void addTakesEveryNumberInside() {
        for (int r = 0; r <= 40; r++) {
            addedAlone(r, 1, 0);
            addedAlone(r, 12, 40);
        }
        for (int p = 1; p <= 12; p++) {
            addedAlone(0, p, 40);
            addedAlone(40, p, 0);
        }
        for (int q = 0; q <= 40; q++) {
            addedAlone(0, 1, q);
            addedAlone(40, 12, q);
        }
    }

    private static void addedAlone(int r, int p, int q) {
        String at = "add(" + r + ", " + p + ", " + q + "): ";
        HeadTail x = new HeadTail();
        Check.due(at + "number", x.add(r, p, q), 0);
        isJob(at, x, 0, r, p, q);
        Check.due(at + "least", x.least(), r + p + q);
        Check.due(at + "interrupted", x.interrupted(), r + p + q);
        Check.due(at + "begins", x.begins(0), r);
    }

    /** Promise 2: "Answers BAD when r is not 0 .. 40". */
    private static void addIsBadForReleases() {
        for (int r : Edges.NO_TIMES) {
            isBad(new HeadTail(), r, 1, 0);
            isBad(new HeadTail(), r, 12, 40);
        }
    }

    /** Promise 2: "p not 1 .. 12". */
    private static void addIsBadForLengths() {
        for (int p : Edges.NO_LENGTHS) {
            isBad(new HeadTail(), 0, p, 0);
            isBad(new HeadTail(), 40, p, 40);
        }
    }

    /** Promise 2: "or q not 0 .. 40". */
    private static void addIsBadForTails() {
        for (int q : Edges.NO_TIMES) {
            isBad(new HeadTail(), 0, 1, q);
            isBad(new HeadTail(), 40, 12, q);
        }
    }

    private static void addIsBadForSeveral() {
        isBad(new HeadTail(), -1, 0, -1);
        isBad(new HeadTail(), 41, 13, 41);
        isBad(new HeadTail(), -1, 1, 41);
        isBad(new HeadTail(), 41, 1, -1);
        isBad(new HeadTail(), 0, 0, 41);
        isBad(new HeadTail(), 41, 13, 0);
        isBad(new HeadTail(), Edges.LOW, Edges.LOW, Edges.LOW);
        isBad(new HeadTail(), Edges.HIGH, Edges.HIGH, Edges.HIGH);
        // Sums that come back into range when they wrap around.
        isBad(new HeadTail(), Edges.LOW, 1, Edges.LOW);
        isBad(new HeadTail(), Edges.HIGH, 2, Edges.HIGH);
    }

    private static void isBad(HeadTail x, int r, int p, int q) {
        String at = "add(" + r + ", " + p + ", " + q + ")";
        int jobs = x.jobs();
        Check.due(at, x.add(r, p, q), HeadTail.BAD);
        Check.due(at + " leaves jobs", x.jobs(), jobs);
    }

    /** Promise 2: "FULL when six are there"; with five, whichever is missing, it is not full. */
    private static void addIsFullAtSix() {
        int[][] good = {{0, 1, 0}, {40, 12, 40}, {3, 2, 1}};
        for (int[] g : good) {
            HeadTail x = new HeadTail();
            for (int j = 0; j < 6; j++) {
                Check.due("add number " + j, x.add(g[0], g[1], g[2]), j);
            }
            Check.due("seventh", x.add(g[0], g[1], g[2]), HeadTail.FULL);
            Check.due("eighth", x.add(g[0], g[1], g[2]), HeadTail.FULL);
            for (int j = 0; j < 6; j++) {
                x.remove(j);
                Check.due("one free, " + j, x.add(g[0], g[1], g[2]), j);
                Check.due("full again", x.add(g[0], g[1], g[2]), HeadTail.FULL);
            }
        }
    }

    /** Promise 15: "add: BAD is tested before FULL." */
    private static void addIsBadBeforeFull() {
        for (int r : Edges.NO_TIMES) {
            isBad(Edges.alike(63, 3, 2, 1), r, 1, 1);
        }
        for (int p : Edges.NO_LENGTHS) {
            isBad(Edges.alike(63, 3, 2, 1), 1, p, 1);
        }
        for (int q : Edges.NO_TIMES) {
            isBad(Edges.alike(63, 3, 2, 1), 1, 1, q);
        }
    }

    /** Promise 2: "otherwise the least number that no job has, which it gets". */
    private static void addGivesTheLeastFreeNumber() {
        for (int set = 0; set < 63; set++) {
            HeadTail x = Edges.alike(set, 3, 2, 1);
            int there = set;
            for (int j = 0; j < 6; j++) {
                if (!Edges.has(set, j)) {
                    there |= 1 << j;
                    Check.due("set " + set + ": add", x.add(10 + j, 5, 6), j);
                    Check.due("set " + set + ": jobs", x.jobs(), there);
                    isJob("set " + set, x, j, 10 + j, 5, 6);
                }
            }
            Check.due("set " + set + ": full", x.add(1, 1, 1), HeadTail.FULL);
            for (int j = 0; j < 6; j++) {
                Check.due("set " + set + ": release " + j, x.part(j, 0), Edges.has(set, j) ? 3 : 10 + j);
            }
        }
    }

    /** Promise 3: "false, changing nothing, when there is no job j". */
    private static void removeKnowsJobsZeroToFive() {
        for (int j : Edges.NO_JOBS) {
            HeadTail x = Edges.alike(63, 3, 2, 1);
            Check.due("remove(" + j + ")", x.remove(j), false);
            Check.due("remove(" + j + ") leaves jobs", x.jobs(), 63);
            Check.due("remove(" + j + ") of none", new HeadTail().remove(j), false);
        }
        for (int j = 0; j < 6; j++) {
            HeadTail x = Edges.alike(63, 3, 2, 1);
            Check.due("remove(" + j + ")", x.remove(j), true);
            Check.due("jobs without " + j, x.jobs(), 63 - (1 << j));
            Check.due("remove(" + j + ") again", x.remove(j), false);
            Check.due("jobs without " + j + " again", x.jobs(), 63 - (1 << j));
            Check.due("least without " + j, x.least(), 14);
            Check.due("remove(" + j + ") of none", new HeadTail().remove(j), false);
        }
    }

    private static void changeTakesEveryNumberInside() {
        for (int r = 0; r <= 40; r++) {
            changed(r, 1, 40);
            changed(r, 12, 0);
        }
        for (int p = 1; p <= 12; p++) {
            changed(0, p, 0);
            changed(40, p, 40);
        }
        for (int q = 0; q <= 40; q++) {
            changed(0, 12, q);
            changed(40, 1, q);
        }
    }

    private static void changed(int r, int p, int q) {
        for (int j = 0; j < 6; j++) {
            String at = "change(" + j + ", " + r + ", " + p + ", " + q + "): ";
            HeadTail x = Edges.alike(63, 3, 2, 1);
            Check.due(at, x.change(j, r, p, q), true);
            Check.due(at + "jobs", x.jobs(), 63);
            for (int i = 0; i < 6; i++) {
                isJob(at, x, i, i == j ? r : 3, i == j ? p : 2, i == j ? q : 1);
            }
        }
    }

    /** Promise 4: "false, changing nothing, when ... a number is not in its range (as in add)". */
    private static void changeRefusesNumbersOutside() {
        for (int r : Edges.NO_TIMES) {
            notChanged(r, 1, 0);
            notChanged(r, 12, 40);
        }
        for (int p : Edges.NO_LENGTHS) {
            notChanged(0, p, 0);
            notChanged(40, p, 40);
        }
        for (int q : Edges.NO_TIMES) {
            notChanged(0, 1, q);
            notChanged(40, 12, q);
        }
        notChanged(-1, 0, -1);
        notChanged(41, 13, 41);
        notChanged(Edges.LOW, 1, Edges.LOW);
        notChanged(Edges.HIGH, 2, Edges.HIGH);
    }

    private static void notChanged(int r, int p, int q) {
        for (int j = 0; j < 6; j++) {
            String at = "change(" + j + ", " + r + ", " + p + ", " + q + ")";
            HeadTail x = Edges.alike(63, 3, 2, 1);
            Check.due(at, x.change(j, r, p, q), false);
            Check.due(at + " leaves jobs", x.jobs(), 63);
            for (int i = 0; i < 6; i++) {
                isJob(at, x, i, 3, 2, 1);
            }
        }
    }

    /** Promise 4: "false, changing nothing, when there is no job j". */
    private static void changeKnowsJobsZeroToFive() {
        for (int j : Edges.NO_JOBS) {
            HeadTail x = Edges.alike(63, 3, 2, 1);
            Check.due("change(" + j + ")", x.change(j, 0, 1, 0), false);
            Check.due("change(" + j + ")", x.change(j, 40, 12, 40), false);
            for (int i = 0; i < 6; i++) {
                isJob("change(" + j + ")", x, i, 3, 2, 1);
            }
            Check.due("change(" + j + ") of none", new HeadTail().change(j, 0, 1, 0), false);
        }
        for (int j = 0; j < 6; j++) {
            HeadTail x = Edges.alike(63 - (1 << j), 3, 2, 1);
            Check.due("change(" + j + ") removed", x.change(j, 40, 12, 40), false);
            Check.due("change(" + j + ") adds none", x.jobs(), 63 - (1 << j));
            Check.due("change(" + j + ") part", x.part(j, 0), HeadTail.NONE);
            Check.due("change(" + j + ") least", x.least(), 14);
            Check.due("change(" + j + ") of none", new HeadTail().change(j, 0, 1, 0), false);
        }
    }

    /** Promise 6: "NONE when ... what is something else". */
    private static void partAnswersThreeParts() {
        HeadTail x = Edges.alike(63, 30, 12, 25);
        for (int j = 0; j < 6; j++) {
            isJob("parts", x, j, 30, 12, 25);
            for (int what : Edges.NO_PARTS) {
                Check.due("part(" + j + ", " + what + ")", x.part(j, what), HeadTail.NONE);
            }
        }
    }

    /** Promise 6: "NONE when there is no job j". */
    private static void partKnowsJobsZeroToFive() {
        HeadTail x = Edges.alike(63, 30, 12, 25);
        for (int j : Edges.NO_JOBS) {
            for (int what = -1; what <= 3; what++) {
                Check.due("part(" + j + ", " + what + ")", x.part(j, what), HeadTail.NONE);
            }
        }
        for (int j = 0; j < 6; j++) {
            x.remove(j);
            for (int what = -1; what <= 3; what++) {
                Check.due("part(" + j + ", " + what + ") removed", x.part(j, what), HeadTail.NONE);
                Check.due("part(" + j + ", " + what + ") of none", new HeadTail().part(j, what), HeadTail.NONE);
            }
        }
    }

    private static void isJob(String at, HeadTail x, int j, int r, int p, int q) {
        Check.due(at + " release of " + j, x.part(j, 0), r);
        Check.due(at + " length of " + j, x.part(j, 1), p);
        Check.due(at + " tail of " + j, x.part(j, 2), q);
    }
}
