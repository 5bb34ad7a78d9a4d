/** Promise 2: reset takes every int and makes the start position or the clear board. */
public final class Promise02ResetTest {
    private static final Checks checks = new Checks();
    private static final int[] OTHER_KINDS = {
        1, -1, 2, 3, 64, 256, 65536, Integer.MIN_VALUE, Integer.MAX_VALUE
    };

    public static void main(String[] args) {
        resetTo(0, Boards.START);
        for (int kind : OTHER_KINDS) {
            resetTo(kind, Boards.CLEAR);
        }
        checks.finish();
    }

    private static void resetTo(int kind, String board) {
        String want = board + " side 1" + Boards.NOTHING_HELD;

        ReversiSolver fresh = new ReversiSolver();
        fresh.reset(kind);
        checks.due("new, reset(" + kind + "), state", Boards.state(fresh), want);

        ReversiSolver whiteToMove = new ReversiSolver();
        whiteToMove.play(19);
        whiteToMove.reset(kind);
        checks.due("play(19), reset(" + kind + "), state", Boards.state(whiteToMove), want);

        ReversiSolver solved = Boards.laid(Boards.TWO_EMPTY, 2);
        solved.solve();
        solved.reset(kind);
        checks.due("solved, reset(" + kind + "), state", Boards.state(solved), want);

        solved.reset(kind);
        checks.due("reset(" + kind + ") twice, state", Boards.state(solved), want);
    }
}
