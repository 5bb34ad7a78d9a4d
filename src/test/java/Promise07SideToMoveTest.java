/** Promise 7: sideToMove answers BLACK or WHITE, whether or not that side can move. */
public final class Promise07SideToMoveTest {
    private static final Checks checks = new Checks();

    public static void main(String[] args) {
        followsTheGame();
        whateverTheBoard();
        changesNothing();
        checks.finish();
    }

    private static void followsTheGame() {
        ReversiSolver x = new ReversiSolver();
        checks.due("new, sideToMove()", x.sideToMove(), 1);
        x.play(19);
        checks.due("play(19), sideToMove()", x.sideToMove(), 2);
        x.play(18);
        checks.due("play(19), play(18), sideToMove()", x.sideToMove(), 1);
        x.play(0);
        checks.due("a refused move, sideToMove()", x.sideToMove(), 1);
    }

    /** Over, full, and with a side that must pass. */
    private static void whateverTheBoard() {
        String[] boards = {Boards.CLEAR, Boards.TWO_EMPTY.replace('.', 'B'), Boards.TWO_EMPTY};
        for (String board : boards) {
            for (int side = 1; side <= 2; side++) {
                ReversiSolver x = Boards.laid(board, side);
                checks.due(board + ", sideToMove()", x.sideToMove(), side);
                checks.due(board + ", sideToMove() again", x.sideToMove(), side);
            }
        }
    }

    private static void changesNothing() {
        ReversiSolver x = Boards.solvedTwoEmpty();
        x.sideToMove();
        checks.due("state after sideToMove", Boards.state(x), Boards.TWO_EMPTY + " side 1" + Boards.TWO_EMPTY_SOLUTION);
    }
}
