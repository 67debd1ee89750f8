/**
 * Promises 13 and 14 at the edges of n: where no value fits, where 0 is the only one, where
 * 200 is reached, and beyond. An object is made for each question, so none can help another.
 */
public final class FitEdgesTest {
    private static final int[] NEVER = {Edges.LOW, Edges.LOW + 1, -200, -1, 0};
    private static final int[] ALWAYS = {1000, 65536, 1 << 30, Edges.HIGH - 1, Edges.HIGH};

    public static void main(String[] args) {
        oneJobAlone();
        anotherJobBindsToo();
        sixGreatestJobs();
        farOutBounds();
        ownNumberDoesNotCount();
        allElseStays();
        Check.end();
    }

    private interface Maker {
        HeadTail make();
    }

    /** "The greatest tail, from 0 to 200 ... NONE when there is none": least is the length at 0. */
    private static int due(int n, int atZero) {
        return n < atZero ? HeadTail.NONE : Math.min(n - atZero, 200);
    }

    private static void oneJobAlone() {
        int[][] jobs = {{0, 1, 0}, {40, 12, 40}, {3, 2, 7}, {0, 12, 40}, {40, 1, 0}};
        for (int[] job : jobs) {
            Maker alone = () -> {
                HeadTail x = new HeadTail();
                x.add(job[0], job[1], job[2]);
                return x;
            };
            for (int n = -2; n <= 300; n++) {
                String at = " of (" + job[0] + ", " + job[1] + ", " + job[2] + "), n " + n;
                Check.due("tailFor" + at, alone.make().tailFor(0, n), due(n, job[0] + job[1]));
                Check.due("releaseFor" + at, alone.make().releaseFor(0, n), due(n, job[1] + job[2]));
            }
        }
    }

    /** Job 1 is done at 25 and needs n 30, whatever becomes of job 0. */
    private static HeadTail bound() {
        HeadTail x = new HeadTail();
        x.add(0, 2, 0);
        x.add(20, 5, 5);
        return x;
    }

    private static void anotherJobBindsToo() {
        for (int n = -2; n <= 300; n++) {
            int due = n < 30 ? HeadTail.NONE : Math.min(n - 2, 200);
            Check.due("bound: tailFor n " + n, bound().tailFor(0, n), due);
            Check.due("bound: releaseFor n " + n, bound().releaseFor(0, n), due);
        }
    }

    /**
     * Six jobs (40, 12, 40), five of which need n 140. From n 152 on they leave place for
     * the sixth before them (its tail) or behind them (its release); below, the sixth has
     * its tail behind them or its release before them.
     */
    private static void sixGreatestJobs() {
        for (int n = 130; n <= 260; n++) {
            int due = n < 140 ? HeadTail.NONE : n < 152 ? n - 112 : Math.min(n - 52, 200);
            for (int j = 0; j < 6; j += 5) {
                Check.due("six: tailFor " + j + ", " + n, Edges.alike(63, 40, 12, 40).tailFor(j, n), due);
                Check.due("six: releaseFor " + j + ", " + n, Edges.alike(63, 40, 12, 40).releaseFor(j, n), due);
            }
        }
    }

    /** n is any int: below every length there is no value, above every length there is 200. */
    private static void farOutBounds() {
        Maker[] makers = {() -> Edges.alike(1, 0, 1, 0), () -> Edges.alike(63, 40, 12, 40), FitEdgesTest::bound};
        for (Maker m : makers) {
            for (int n : NEVER) {
                Check.due("tailFor " + n, m.make().tailFor(0, n), HeadTail.NONE);
                Check.due("releaseFor " + n, m.make().releaseFor(0, n), HeadTail.NONE);
            }
            for (int n : ALWAYS) {
                Check.due("tailFor " + n, m.make().tailFor(0, n), 200);
                Check.due("releaseFor " + n, m.make().releaseFor(0, n), 200);
            }
        }
        for (int n : NEVER) {
            Check.due("no job: tailFor " + n, new HeadTail().tailFor(0, n), HeadTail.NONE);
            Check.due("no job: releaseFor " + n, new HeadTail().releaseFor(0, n), HeadTail.NONE);
        }
    }

    /** What job j has now is no bound for what it "could have", neither above nor below. */
    private static void ownNumberDoesNotCount() {
        for (int own = 0; own <= 40; own++) {
            HeadTail x = bound();
            x.change(0, 0, 2, own);
            Check.due("own tail " + own + ": NONE", x.tailFor(0, 29), HeadTail.NONE);
            Check.due("own tail " + own + ": 28", x.tailFor(0, 30), 28);
            Check.due("own tail " + own + ": 200", x.tailFor(0, 202), 200);
            x.change(0, own, 2, 0);
            Check.due("own release " + own + ": NONE", x.releaseFor(0, 29), HeadTail.NONE);
            Check.due("own release " + own + ": 28", x.releaseFor(0, 30), 28);
            Check.due("own release " + own + ": 200", x.releaseFor(0, 202), 200);
        }
    }

    /** "all else as it is", in the question and after it, whether a value fits or not. */
    private static void allElseStays() {
        for (int n : new int[] {Edges.LOW, 29, 30, 100, 201, 202, 203, Edges.HIGH}) {
            for (int j = 0; j < 2; j++) {
                HeadTail x = bound();
                x.tailFor(j, n);
                isBound("after tailFor " + j + ", " + n, x);
                x.releaseFor(j, n);
                isBound("after releaseFor " + j + ", " + n, x);
            }
        }
    }

    private static void isBound(String at, HeadTail x) {
        int[][] due = {{0, 2, 0}, {20, 5, 5}};
        for (int j = 0; j < 2; j++) {
            for (int what = 0; what < 3; what++) {
                Check.due(at + ": part " + j + ", " + what, x.part(j, what), due[j][what]);
            }
        }
        Check.due(at + ": jobs", x.jobs(), 3);
        Check.due(at + ": least", x.least(), 30);
        Check.due(at + ": interrupted", x.interrupted(), 30);
        Check.due(at + ": begins", x.begins(1), 20);
        Check.due(at + ": tailFor", x.tailFor(0, 30), 28);
        Check.due(at + ": releaseFor", x.releaseFor(0, 30), 28);
    }
}
