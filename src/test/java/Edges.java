import java.util.function.Supplier;

/** What is taken at the edges of an argument, what is refused beyond them, and that a refused call changes nothing. */
final class Edges {
    private final Due due;

    Edges(Due due) {
        this.due = due;
    }

    /** A call with all its arguments. */
    interface Call {
        int on(TurnCounts x);
    }

    /** A call of which one argument is left open. */
    interface OpenCall {
        int on(TurnCounts x, int v);
    }

    /** Low and high are taken; the next ones outside and the farthest ones are refused. */
    void from(int low, int high, int refusal, String name, Supplier<TurnCounts> state, OpenCall call) {
        for (int v : new int[] {low, high}) {
            int answer = call.on(state.get(), v);
            due.is(name + " takes " + v + " (it answered " + answer + ")", isTaken(answer) ? 1 : 0, 1);
        }
        for (int v : new int[] {low - 1, high + 1, Integer.MIN_VALUE, Integer.MAX_VALUE}) {
            refused(refusal, name + " with " + v, state, x -> call.on(x, v));
        }
    }

    static boolean isTaken(int answer) {
        return answer >= 0 || answer == TurnCounts.NONE;
    }

    /** A call is refused, and behind it all that is told is as on an object on which it was not called. */
    void refused(int refusal, String name, Supplier<TurnCounts> state, Call call) {
        tells(refusal, name, state, call);
    }

    /** A call that only tells leaves all as it was. */
    void tells(int want, String name, Supplier<TurnCounts> state, Call call) {
        TurnCounts touched = state.get();
        due.is(name, call.on(touched), want);
        unchanged(name, touched, state.get());
    }

    private void unchanged(String name, TurnCounts touched, TurnCounts untouched) {
        String got = Probe.all(touched);
        String want = Probe.all(untouched);
        due.is(name + " changes nothing" + firstDifference(got, want), got.equals(want) ? 1 : 0, 1);
    }

    private static String firstDifference(String got, String want) {
        String[] gotLines = got.split("\n");
        String[] wantLines = want.split("\n");
        for (int i = 0; i < Math.min(gotLines.length, wantLines.length); i++) {
            if (!gotLines[i].equals(wantLines[i])) {
                return " (" + gotLines[i] + ", not " + wantLines[i] + ")";
            }
        }
        return "";
    }
}
