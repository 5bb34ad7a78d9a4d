/** Promise 2: reset takes every int and makes the start position or the clear board. */
public final class Promise02ResetTest {
    private static final Checks checks = new Checks();

    public static void main(String[] args) {
        checks.holds("It accepts every int, including negative values and the extremes of int.",
            Promise02ResetTest::everyKind);
        checks.holds("If kind == 0, the board becomes the start position", () -> boardAfter(0, Boards.START));
        checks.holds("For any other kind, all 64 squares become EMPTY.", Promise02ResetTest::otherKinds);
        checks.holds("In both cases BLACK is to move", Promise02ResetTest::blackToMove);
        checks.holds("and the held solution becomes absent", Promise02ResetTest::nothingHeld);
        checks.holds("reset(int kind) is never refused", Promise02ResetTest::neverRefused);
        checks.holds("a second reset gives the same", Promise02ResetTest::twice);
        checks.finish();
    }

    /** One object takes them all, so that nothing but the last kind may count. */
    private static void everyKind() {
        ReversiSolver x = Boards.solvedTwoEmpty();
        for (int kind : Edges.outside(0, 0)) {
            x.reset(kind);
            checks.due("reset(" + kind + "), board", Boards.board(x), Boards.CLEAR);
            x.reset(0);
            checks.due("reset(" + kind + "), reset(0), board", Boards.board(x), Boards.START);
        }
    }

    private static void boardAfter(int kind, String want) {
        for (ReversiSolver x : Boards.everyState()) {
            String before = Boards.state(x);
            x.reset(kind);
            checks.due(before + ", reset(" + kind + "), board", Boards.board(x), want);
        }
    }

    private static void otherKinds() {
        int[] kinds = {1, -1, 2, 3, 64, 256, 65536, Integer.MIN_VALUE, Integer.MIN_VALUE + 1, Integer.MAX_VALUE};
        for (int kind : kinds) {
            boardAfter(kind, Boards.CLEAR);
        }
    }

    private static void blackToMove() {
        for (int kind : new int[] {0, 1, -1, Integer.MIN_VALUE, Integer.MAX_VALUE}) {
            for (ReversiSolver x : Boards.everyState()) {
                String before = Boards.state(x);
                x.reset(kind);
                checks.due(before + ", reset(" + kind + "), sideToMove()", x.sideToMove(), 1);
            }
        }
    }

    private static void nothingHeld() {
        for (int kind : new int[] {0, 1, -1, Integer.MIN_VALUE, Integer.MAX_VALUE}) {
            for (ReversiSolver x : Boards.holding()) {
                String before = Boards.state(x);
                x.reset(kind);
                checks.due(before + ", reset(" + kind + "), solution", Boards.solution(x), Boards.NOTHING_HELD);
            }
        }
    }

    /** It answers nothing, so a refusal would show in a state that stays as it was. */
    private static void neverRefused() {
        for (int kind : Edges.outside(0, 0)) {
            ReversiSolver x = Boards.solved(Boards.TWO_EMPTY, 2);
            x.reset(kind);
            checks.due("reset(" + kind + "), state", Boards.state(x), Boards.CLEAR + " side 1" + Boards.NOTHING_HELD);
        }
    }

    private static void twice() {
        for (int kind : new int[] {0, 1}) {
            ReversiSolver x = new ReversiSolver();
            x.play(19);
            x.reset(kind);
            x.reset(kind);
            checks.due("reset(" + kind + ") twice, state", Boards.state(x),
                (kind == 0 ? Boards.START : Boards.CLEAR) + " side 1" + Boards.NOTHING_HELD);
        }
    }
}
