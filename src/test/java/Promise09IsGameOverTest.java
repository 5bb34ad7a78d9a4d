/** Promise 9: the game is over when neither side can move, whoever is to move. */
public final class Promise09IsGameOverTest {
    private static final Checks checks = new Checks();

    public static void main(String[] args) {
        checks.holds("isGameOver() answers true if and only if the board is over, that is, neither BLACK nor WHITE has a"
            + " legal move.", Promise09IsGameOverTest::neitherCanMove);
        checks.holds("one side's move is enough", Promise09IsGameOverTest::onlyOneSideCanMove);
        checks.holds("one move on any square is enough", Promise09IsGameOverTest::oneMoveOnEachSquare);
        checks.holds("A full board is over", Promise09IsGameOverTest::fullBoards);
        checks.holds("and so is a board without any discs", () -> overIs(true, Boards.CLEAR));
        checks.holds("The answer does not depend on the side to move.", Promise09IsGameOverTest::eitherSide);
        checks.holds("It changes nothing.", Promise09IsGameOverTest::changesNothing);
        checks.finish();
    }

    private static void overIs(boolean want, String board) {
        for (int side = 1; side <= 2; side++) {
            checks.due(board + ", side " + side + ", isGameOver()", Boards.laid(board, side).isGameOver(), want);
        }
    }

    private static void neitherCanMove() {
        overIs(false, Boards.START);
        overIs(true, Boards.OVER);
        overIs(true, "B....... ........ ........ ........ ........ ........ ........ .......W");
        overIs(true, "B.W.B.W. ........ ........ ........ ........ ........ ........ ........");
        overIs(true, ".BBBBBB. ........ ........ ........ ........ ........ ........ ........");
        overIs(true, ".......W ........ ........ ........ ........ ........ ........ ........");
        Numbers numbers = new Numbers(9);
        for (int round = 0; round < 3000; round++) {
            String board = numbers.board(numbers.below(round % 2 == 0 ? 65 : 5), new int[] {3, 50, 97}[round % 3]);
            overIs(Reference.of(Boards.laid(board, 1)).over(), board);
        }
    }

    private static void onlyOneSideCanMove() {
        overIs(false, Boards.TWO_EMPTY);
        overIs(false, Boards.otherColours(Boards.TWO_EMPTY));
        overIs(false, "BW...... ........ ........ ........ ........ ........ ........ ........");
        overIs(false, "WB...... ........ ........ ........ ........ ........ ........ ........");
        overIs(false, "BWWWWWW. ........ ........ ........ ........ ........ ........ ........");
        overIs(true, "BWWWWWWW ........ ........ ........ ........ ........ ........ ........");
    }

    /** A board of one colour with one empty square, and one other disc beside it. */
    private static void oneMoveOnEachSquare() {
        for (int sq = 0; sq < 64; sq++) {
            int beside = sq % 8 < 6 ? sq + 1 : sq - 1;
            String board = Boards.with(Boards.with(Boards.ALL_BLACK, sq, '.'), beside, 'W');
            overIs(false, board);
            overIs(false, Boards.otherColours(board));
            overIs(true, Boards.with(board, beside, 'B'));
            overIs(true, Boards.with(board, sq, 'B'));
        }
    }

    private static void fullBoards() {
        overIs(true, Boards.ALL_BLACK);
        overIs(true, Boards.ALL_WHITE);
        overIs(true, Boards.HALVES);
        overIs(true, Boards.FULL);
        Numbers numbers = new Numbers(90);
        for (int round = 0; round < 300; round++) {
            overIs(true, numbers.board(0, numbers.below(101)));
        }
    }

    private static void eitherSide() {
        for (ReversiSolver x : Boards.everyState()) {
            boolean before = x.isGameOver();
            x.setSideToMove(3 - x.sideToMove());
            checks.due(Boards.state(x) + ", isGameOver() for the other side", x.isGameOver(), before);
        }
    }

    private static void changesNothing() {
        for (Known known : Known.all()) {
            long want = known.board.over() ? 1 : 0;
            known.unchangedBy(checks, "isGameOver()", x -> x.isGameOver() ? 1 : 0, want);
        }
    }
}
