import java.util.ArrayList;
import java.util.List;
import java.util.function.ToLongFunction;

/** An object with the text of the state that it has to be in, which is told without asking the object. */
final class Known {
    final ReversiSolver x;
    final Reference board;
    final int side;
    final boolean held;
    final String state;

    private Known(ReversiSolver x, String board, int side, boolean held) {
        this.x = x;
        this.board = Reference.of(board);
        this.side = side;
        this.held = held;
        this.state = board + " side " + side + (held ? this.board.solution(side) : Boards.NOTHING_HELD);
    }

    static Known laid(String board, int side) {
        return new Known(Boards.laid(board, side), board, side, false);
    }

    static Known solved(String board, int side) {
        return new Known(Boards.solved(board, side), board, side, true);
    }

    /** Objects that hold a solution: of a move, of a pass, of an over board, of a full one, and a long one. */
    static List<Known> holding() {
        List<Known> all = new ArrayList<>();
        String[] boards = {
            Boards.TWO_EMPTY, Boards.otherColours(Boards.TWO_EMPTY), Boards.OVER, Boards.FULL, Boards.HALVES,
            Boards.SIX_EMPTY, Boards.TWELVE_ENTRIES
        };
        for (String board : boards) {
            all.add(solved(board, 1));
            all.add(solved(board, 2));
        }
        return all;
    }

    /** Objects that hold none: at the start, without discs, full, and with a solution that was dropped. */
    static List<Known> holdingNone() {
        List<Known> all = new ArrayList<>();
        for (String board : new String[] {Boards.START, Boards.CLEAR, Boards.FULL, Boards.TWO_EMPTY}) {
            all.add(laid(board, 1));
            all.add(laid(board, 2));
        }
        ReversiSolver dropped = Boards.solved(Boards.TWELVE_ENTRIES, 1);
        dropped.pass();
        all.add(new Known(dropped, Boards.TWELVE_ENTRIES, 2, false));
        return all;
    }

    static List<Known> all() {
        List<Known> all = holding();
        all.addAll(holdingNone());
        return all;
    }

    int value() {
        return held ? board.value(side) : -100;
    }

    /** Empty if none is held. */
    List<Integer> line() {
        return held ? board.line(side) : List.of();
    }

    /** The call gives the due answer and leaves the whole state as it was. */
    void unchangedBy(Checks checks, String call, ToLongFunction<ReversiSolver> made, long want) {
        checks.due(state + ", " + call, made.applyAsLong(x), want);
        checks.due(state + ", " + call + ", state", Boards.state(x), state);
    }

    static void unchangedBy(Checks checks, List<Known> all, String call, ToLongFunction<ReversiSolver> made, long want) {
        for (Known known : all) {
            known.unchangedBy(checks, call, made, want);
        }
    }
}
