/** Promise 7: sideToMove answers BLACK or WHITE, whether or not that side can move. */
public final class Promise07SideToMoveTest {
    private static final Checks checks = new Checks();

    public static void main(String[] args) {
        checks.holds("sideToMove() answers the side to move, BLACK or WHITE.", Promise07SideToMoveTest::followsTheGame);
        checks.holds("It does so even when the board is over", Promise07SideToMoveTest::over);
        checks.holds("and even when that side has no legal move", Promise07SideToMoveTest::mustPass);
        checks.holds("It changes nothing.", Promise07SideToMoveTest::changesNothing);
        checks.finish();
    }

    private static void followsTheGame() {
        ReversiSolver x = new ReversiSolver();
        checks.due("new, sideToMove()", x.sideToMove(), 1);
        x.play(19);
        checks.due("play(19), sideToMove()", x.sideToMove(), 2);
        x.play(18);
        checks.due("play(19), play(18), sideToMove()", x.sideToMove(), 1);
        x.play(0);
        checks.due("a refused move, sideToMove()", x.sideToMove(), 1);
        x.pass();
        checks.due("a refused pass, sideToMove()", x.sideToMove(), 1);
    }

    private static void over() {
        for (String board : new String[] {Boards.CLEAR, Boards.OVER, Boards.FULL, Boards.ALL_BLACK, Boards.ALL_WHITE}) {
            sideOn(board, 1);
            sideOn(board, 2);
        }
        ReversiSolver x = Boards.laid(Boards.TWO_EMPTY, 1);
        x.play(0);
        x.pass();
        x.play(63);
        checks.due("played to the end, sideToMove()", x.sideToMove(), 2);
        x.pass();
        checks.due("played to the end, pass() refused, sideToMove()", x.sideToMove(), 2);
    }

    private static void mustPass() {
        sideOn(Boards.TWO_EMPTY, 2);
        sideOn(Boards.otherColours(Boards.TWO_EMPTY), 1);
        ReversiSolver x = Boards.laid(Boards.TWO_EMPTY, 1);
        x.play(0);
        checks.due("play(0), sideToMove()", x.sideToMove(), 2);
    }

    private static void sideOn(String board, int side) {
        ReversiSolver x = Boards.laid(board, side);
        checks.due(board + ", sideToMove()", x.sideToMove(), side);
        checks.due(board + ", sideToMove() again", x.sideToMove(), side);
    }

    private static void changesNothing() {
        for (Known known : Known.all()) {
            known.unchangedBy(checks, "sideToMove()", ReversiSolver::sideToMove, known.side);
        }
    }
}
