import java.util.ArrayList;
import java.util.List;

/** What an object answers to every kind of call, in a fixed order, to lay two objects side by side. */
final class Answers {
    private final HeadTail x;
    private final List<String> told = new ArrayList<>();

    private Answers(HeadTail x) {
        this.x = x;
    }

    /** One line for each call made on x. */
    static List<String> of(HeadTail x) {
        Answers a = new Answers(x);
        a.ask();
        a.goOn();
        return a.told;
    }

    /** The first answer in which the two differ is told, if there is one. */
    static void same(String after, List<String> got, List<String> due) {
        for (int n = 0; n < due.size(); n++) {
            if (!got.get(n).equals(due.get(n))) {
                Check.due(after + ", then " + got.get(n) + " where " + due.get(n), false, true);
                return;
            }
        }
    }

    private void ask() {
        tell("jobs", x.jobs());
        tell("least", x.least());
        tell("interrupted", x.interrupted());
        for (int j = 0; j < 6; j++) {
            for (int what = 0; what < 3; what++) {
                tell("part " + j + " " + what, x.part(j, what));
            }
            tell("bestAt " + j, x.bestAt(j));
            tell("begins " + j, x.begins(j));
            tell("leastFirst " + j, x.leastFirst(j));
            tell("tailFor " + j, x.tailFor(j, 60));
            tell("releaseFor " + j, x.releaseFor(j, 60));
            for (int i = 0; i < 6; i++) {
                tell("leastWith " + i + " " + j, x.leastWith(i, j));
            }
        }
    }

    /** Calls that change the jobs, for what the first ones cannot show, such as the next free number. */
    private void goOn() {
        for (int n = 0; n < 7; n++) {
            tell("add again " + n, x.add(n, 3, 11 - n));
        }
        tell("jobs when filled", x.jobs());
        tell("least when filled", x.least());
        tell("interrupted when filled", x.interrupted());
        for (int j = 0; j < 6; j++) {
            tell("bestAt when filled " + j, x.bestAt(j));
        }
        tell("change", x.change(4, 8, 8, 8) ? 1 : 0);
        tell("least when changed", x.least());
        for (int j = 0; j < 6; j++) {
            tell("remove " + j, x.remove(j) ? 1 : 0);
            tell("jobs when removed " + j, x.jobs());
        }
        tell("least when empty", x.least());
        tell("interrupted when empty", x.interrupted());
        tell("add when empty", x.add(1, 1, 1));
    }

    private void tell(String call, int answer) {
        told.add(call + " = " + answer);
    }
}
