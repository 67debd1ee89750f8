/**
 * LANGUAGE.md, rule 7: "No call may ever throw or fail to end, for any arguments in any state".
 * Only that is looked at here, so an object may have more than its 512 calls.
 */
public final class AnyCallTest {
    private static final int[] NUMBERS = {
        Edges.LOW, Edges.LOW + 1, -65536, -33, -2, -1, 0, 1, 2, 3, 5, 6, 7, 12, 13, 31, 32, 40, 41,
        200, 201, 720, 65536, 1 << 30, Edges.HIGH - 1, Edges.HIGH};
    private static final int CALLS = 20000;

    private static long seed = 7;

    public static void main(String[] args) {
        for (int set = 0; set < 64; set++) {
            anyTwoNumbers(Edges.alike(set, 3, 2, 1), "set " + set);
        }
        anyTwoNumbers(new HeadTail(), "new object");
        anyTwoNumbers(Edges.alike(63, 40, 12, 40), "greatest jobs");
        anyRun();
        Check.end();
    }

    private static void anyTwoNumbers(HeadTail x, String state) {
        for (int a : NUMBERS) {
            for (int b : NUMBERS) {
                for (int kind = 3; kind < 13; kind++) {
                    call(x, state, kind, a, b, a, b);
                }
            }
        }
    }

    private static void anyRun() {
        HeadTail x = new HeadTail();
        for (int n = 0; n < CALLS; n++) {
            call(x, "call " + n, next(13), number(), number(), number(), number());
        }
    }

    private static void call(HeadTail x, String state, int kind, int a, int b, int c, int d) {
        try {
            make(x, kind, a, b, c, d);
        } catch (RuntimeException | Error thrown) {
            String told = state + ", kind " + kind + " (" + a + ", " + b + ", " + c + ", " + d + "): " + thrown;
            Check.due(told, false, true);
        }
    }

    private static void make(HeadTail x, int kind, int a, int b, int c, int d) {
        switch (kind) {
            case 0 -> x.add(a, b, c);
            case 1 -> x.remove(a);
            case 2 -> x.change(a, b, c, d);
            case 3 -> x.jobs();
            case 4 -> x.part(a, b);
            case 5 -> x.least();
            case 6 -> x.bestAt(a);
            case 7 -> x.begins(a);
            case 8 -> x.leastWith(a, b);
            case 9 -> x.leastFirst(a);
            case 10 -> x.interrupted();
            case 11 -> x.tailFor(a, b);
            default -> x.releaseFor(a, b);
        }
    }

    /** Small numbers half of the time, so that jobs come and go. */
    private static int number() {
        return next(2) == 0 ? next(7) : NUMBERS[next(NUMBERS.length)];
    }

    private static int next(int bound) {
        seed = seed * 6364136223846793005L + 1442695040888963407L;
        return (int) ((seed >>> 33) % bound);
    }
}
