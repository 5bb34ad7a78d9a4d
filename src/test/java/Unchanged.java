import java.util.List;
import java.util.function.ToLongFunction;

/** Calls that have to leave the whole state as it was: the refused ones and the getters. */
final class Unchanged {
    private Unchanged() {
    }

    static void by(Checks checks, ReversiSolver x, String call, ToLongFunction<ReversiSolver> made, long want) {
        String before = Boards.state(x);
        checks.due(before + ", " + call, made.applyAsLong(x), want);
        checks.due(before + ", " + call + ", state", Boards.state(x), before);
    }

    static void by(Checks checks, List<ReversiSolver> all, String call, ToLongFunction<ReversiSolver> made, long want) {
        for (ReversiSolver x : all) {
            by(checks, x, call, made, want);
        }
    }
}
