import java.util.ArrayList;
import java.util.List;
import java.util.function.ToIntFunction;

/**
 * Promise 15: "A call that is refused, because a number is not as said there, something is not
 * there, or a limit is reached, changes nothing." Each refused call is made on an object of its
 * own, in states from no jobs to six; what the object answers from then on is laid beside the
 * answers of one to which the call was not made.
 */
public final class RefusedTest {
    private static final int[][] JOBS = {{9, 3, 12}, {0, 7, 5}, {14, 5, 9}, {4, 2, 18}, {20, 6, 1}, {2, 4, 20}};
    private static final int[] SETS = {0, 1, 32, 0b010110, 0b101001, 0b111110, 0b011111, 63};
    private static final int CALLS_TO_MAKE = 12;
    private static final int CALLS_TO_ASK = 3;
    private static final int MOST_CALLS = 512;

    private record Refused(String told, int due, ToIntFunction<HeadTail> call) {
    }

    private final int set;
    private final List<Integer> there = new ArrayList<>();
    private final List<Integer> absent = new ArrayList<>();
    private final List<Refused> calls = new ArrayList<>();

    private RefusedTest(int set) {
        this.set = set;
        for (int j = 0; j < 6; j++) {
            (Edges.has(set, j) ? there : absent).add(j);
        }
        for (int j : Edges.NO_JOBS) {
            absent.add(j);
        }
    }

    public static void main(String[] args) {
        for (int set : SETS) {
            new RefusedTest(set).run();
        }
        onNewObjects();
        Check.end();
    }

    private static HeadTail make(int set) {
        HeadTail x = new HeadTail();
        for (int[] job : JOBS) {
            x.add(job[0], job[1], job[2]);
        }
        Edges.keepOnly(x, set);
        return x;
    }

    private void run() {
        adds();
        removes();
        changes();
        parts();
        orders();
        fits();
        List<String> due = Answers.of(make(set));
        for (Refused each : calls) {
            HeadTail x = make(set);
            refuse(x, each);
            Answers.same("set " + set + ": " + each.told, Answers.of(x), due);
        }
        allTogether(due);
    }

    private void refuse(HeadTail x, Refused each) {
        Check.due("set " + set + ": " + each.told, each.call.applyAsInt(x), each.due);
    }

    /**
     * As many refused calls on one object as its 512 calls leave room for. It has been asked
     * before them, so what it may have kept from an answer must outlast them or be found anew.
     */
    private void allTogether(List<String> due) {
        int room = MOST_CALLS - CALLS_TO_MAKE - CALLS_TO_ASK - due.size();
        for (int from = 0; from < calls.size(); from += room) {
            HeadTail x = make(set);
            x.least();
            x.bestAt(0);
            x.interrupted();
            for (Refused each : calls.subList(from, Math.min(from + room, calls.size()))) {
                refuse(x, each);
            }
            Answers.same("set " + set + ": all refused calls from " + from, Answers.of(x), due);
        }
    }

    /** A new object, on which not even a removed job was, is left as it is too. */
    private static void onNewObjects() {
        List<String> due = Answers.of(new HeadTail());
        RefusedTest none = new RefusedTest(0);
        none.adds();
        none.removes();
        none.changes();
        none.parts();
        none.orders();
        none.fits();
        for (Refused each : none.calls) {
            HeadTail x = new HeadTail();
            none.refuse(x, each);
            Answers.same("new object: " + each.told, Answers.of(x), due);
        }
    }

    private void refused(String told, int due, ToIntFunction<HeadTail> call) {
        calls.add(new Refused(told, due, call));
    }

    private void adds() {
        for (int r : Edges.NO_TIMES) {
            refusedAdd(r, 12, 40, HeadTail.BAD);
        }
        for (int p : Edges.NO_LENGTHS) {
            refusedAdd(0, p, 40, HeadTail.BAD);
        }
        for (int q : Edges.NO_TIMES) {
            refusedAdd(0, 12, q, HeadTail.BAD);
        }
        if (set == 63) {
            refusedAdd(0, 1, 0, HeadTail.FULL);
            refusedAdd(40, 12, 40, HeadTail.FULL);
        }
    }

    private void refusedAdd(int r, int p, int q, int due) {
        refused("add(" + r + ", " + p + ", " + q + ")", due, x -> x.add(r, p, q));
    }

    private void removes() {
        for (int j : absent) {
            refused("remove(" + j + ")", 0, x -> x.remove(j) ? 1 : 0);
        }
    }

    private void changes() {
        for (int j : absent) {
            refusedChange(j, 0, 12, 40);
            refusedChange(j, 40, 1, 0);
            refusedChange(j, -1, 12, 40);
        }
        for (int j : there) {
            for (int r : Edges.NO_TIMES) {
                refusedChange(j, r, 12, 40);
            }
            for (int p : Edges.NO_LENGTHS) {
                refusedChange(j, 0, p, 40);
            }
            for (int q : Edges.NO_TIMES) {
                refusedChange(j, 0, 12, q);
            }
        }
    }

    private void refusedChange(int j, int r, int p, int q) {
        refused("change(" + j + ", " + r + ", " + p + ", " + q + ")", 0, x -> x.change(j, r, p, q) ? 1 : 0);
    }

    private void parts() {
        for (int j : absent) {
            refusedPart(j, 0);
            refusedPart(j, 1);
            refusedPart(j, 2);
            refusedPart(j, 3);
        }
        for (int j : there) {
            for (int what : Edges.NO_PARTS) {
                refusedPart(j, what);
            }
        }
    }

    private void refusedPart(int j, int what) {
        refused("part(" + j + ", " + what + ")", HeadTail.NONE, x -> x.part(j, what));
    }

    private void orders() {
        for (int k = there.size(); k < 6; k++) {
            refusedBestAt(k);
        }
        for (int k : Edges.NO_JOBS) {
            refusedBestAt(k);
        }
        for (int j : absent) {
            refused("begins(" + j + ")", HeadTail.NONE, x -> x.begins(j));
            refused("leastFirst(" + j + ")", HeadTail.NONE, x -> x.leastFirst(j));
            refusedLeastWith(j, j);
            refusedLeastWith(j, 6);
            if (!there.isEmpty()) {
                refusedLeastWith(j, there.get(0));
                refusedLeastWith(there.get(0), j);
            }
        }
        for (int j : there) {
            refusedLeastWith(j, j);
        }
    }

    private void refusedBestAt(int k) {
        refused("bestAt(" + k + ")", HeadTail.NONE, x -> x.bestAt(k));
    }

    private void refusedLeastWith(int i, int j) {
        refused("leastWith(" + i + ", " + j + ")", HeadTail.NONE, x -> x.leastWith(i, j));
    }

    private void fits() {
        for (int j : absent) {
            refusedFits(j, 100);
            refusedFits(j, Edges.HIGH);
            refusedFits(j, Edges.LOW);
        }
        for (int j : there) {
            refusedFits(j, Edges.LOW);
            refusedFits(j, -1);
            refusedFits(j, 0);
        }
    }

    private void refusedFits(int j, int n) {
        refused("tailFor(" + j + ", " + n + ")", HeadTail.NONE, x -> x.tailFor(j, n));
        refused("releaseFor(" + j + ", " + n + ")", HeadTail.NONE, x -> x.releaseFor(j, n));
    }
}
