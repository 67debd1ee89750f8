import java.util.List;
import java.util.function.ToIntFunction;

/**
 * 'What it is': "An object is used for at most 512 calls after it has been made". Whatever 511
 * calls went before, all of which answer as due, the 512th does so too.
 */
public final class CallLimitTest {
    private static final int MOST_CALLS = 512;

    private record Call(String told, int due, ToIntFunction<HeadTail> call) {
        void make(HeadTail x, int number) {
            Check.due(told + " as call " + number, call.applyAsInt(x), due);
        }
    }

    private static final Call ADD = new Call("add(40, 12, 40)", 2, x -> x.add(40, 12, 40));
    private static final Call TAKE_BACK = new Call("remove(2)", 1, x -> x.remove(2) ? 1 : 0);
    private static final Call REMOVE = new Call("remove(1)", 1, x -> x.remove(1) ? 1 : 0);
    private static final Call BRING_BACK = new Call("add(1, 1, 40)", 1, x -> x.add(1, 1, 40));
    private static final Call CHANGE = new Call("change(1, 0, 1, 0)", 1, x -> x.change(1, 0, 1, 0) ? 1 : 0);
    private static final Call CHANGE_BACK = new Call("change(1, 1, 1, 40)", 1, x -> x.change(1, 1, 1, 40) ? 1 : 0);

    /** These leave the two jobs (0, 12, 0) and (1, 1, 40) as they are. */
    private static final List<Call> ASKING = List.of(
        new Call("jobs()", 3, x -> x.jobs()),
        new Call("part(1, 2)", 40, x -> x.part(1, 2)),
        new Call("least()", 42, x -> x.least()),
        new Call("bestAt(0)", 1, x -> x.bestAt(0)),
        new Call("begins(0)", 2, x -> x.begins(0)),
        new Call("leastWith(0, 1)", 53, x -> x.leastWith(0, 1)),
        new Call("leastFirst(0)", 53, x -> x.leastFirst(0)),
        new Call("interrupted()", 42, x -> x.interrupted()),
        new Call("tailFor(1, 41)", 39, x -> x.tailFor(1, 41)),
        new Call("releaseFor(0, 42)", 30, x -> x.releaseFor(0, 42)),
        new Call("add(41, 1, 1)", HeadTail.BAD, x -> x.add(41, 1, 1)),
        new Call("remove(2)", 0, x -> x.remove(2) ? 1 : 0),
        new Call("change(0, 0, 13, 0)", 0, x -> x.change(0, 0, 13, 0) ? 1 : 0),
        new Call("tailFor(1, 0)", HeadTail.NONE, x -> x.tailFor(1, 0)));

    private static final List<Call> CHANGING = List.of(ADD, REMOVE, CHANGE);

    public static void main(String[] args) {
        allLastCallsAfter(ASKING);
        for (Call each : ASKING) {
            allLastCallsAfter(List.of(each));
        }
        allLastCallsAfter(List.of(ADD, TAKE_BACK));
        allLastCallsAfter(List.of(REMOVE, BRING_BACK));
        allLastCallsAfter(List.of(CHANGE, CHANGE_BACK));
        allLastCallsAfter(List.of(ADD, TAKE_BACK, REMOVE, BRING_BACK, CHANGE, CHANGE_BACK));
        fullAtTheLastCall();
        Check.end();
    }

    private static void allLastCallsAfter(List<Call> round) {
        for (Call last : ASKING) {
            lastCallAfter(round, last);
        }
        for (Call last : CHANGING) {
            lastCallAfter(round, last);
        }
    }

    private static void lastCallAfter(List<Call> round, Call last) {
        HeadTail x = new HeadTail();
        x.add(0, 12, 0);
        x.add(1, 1, 40);
        int made = 2;
        while (made + round.size() < MOST_CALLS) {
            for (Call each : round) {
                made++;
                each.make(x, made);
            }
        }
        while (made < MOST_CALLS - 1) {
            made++;
            ASKING.get(0).make(x, made);
        }
        last.make(x, MOST_CALLS);
    }

    /** Neither the calls that are refused nor the jobs that are gone use up the place for six. */
    private static void fullAtTheLastCall() {
        HeadTail x = new HeadTail();
        int made = 0;
        while (made < MOST_CALLS - 8) {
            Check.due("number before call " + made, x.add(3, 2, 1), 0);
            Check.due("gone before call " + made, x.remove(0), true);
            made += 2;
        }
        for (int j = 0; j < 6; j++) {
            Check.due("number " + j + " near the end", x.add(3, 2, 1), j);
        }
        Check.due("last but one", x.add(3, 2, 1), HeadTail.FULL);
        Check.due("least as call 512", x.least(), 16);
    }
}
