/** Promise 9: the game is over when neither side can move, whoever is to move. */
public final class Promise09IsGameOverTest {
    private static final Checks checks = new Checks();

    public static void main(String[] args) {
        overIs(true, Boards.CLEAR);
        overIs(false, Boards.START);
        overIs(true, Boards.TWO_EMPTY.replace('.', 'B'));
        overIs(true, Boards.TWO_EMPTY.replace('.', 'W'));
        overIs(true, Boards.TWO_EMPTY.replace('W', 'B'));
        overIs(true, "B....... ........ ........ ........ ........ ........ ........ .......W");
        overIs(true, "B.W.B.W. ........ ........ ........ ........ ........ ........ ........");
        onlyOneSideCanMove();
        randomBoards();
        changesNothing();
        checks.finish();
    }

    private static void overIs(boolean want, String board) {
        for (int side = 1; side <= 2; side++) {
            checks.due(board + ", side " + side + ", isGameOver()", Boards.laid(board, side).isGameOver(), want);
        }
    }

    /** Black alone can move, then White alone; and a move at either end of the board. */
    private static void onlyOneSideCanMove() {
        overIs(false, Boards.TWO_EMPTY);
        overIs(false, Boards.TWO_EMPTY.replace('W', 'x').replace('B', 'W').replace('x', 'B'));
        overIs(false, Boards.with(Boards.TWO_EMPTY, 0, 'B'));
        overIs(false, Boards.with(Boards.TWO_EMPTY, 63, 'B'));
    }

    private static void randomBoards() {
        Numbers numbers = new Numbers(9);
        for (int round = 0; round < 3000; round++) {
            String board = numbers.board(numbers.below(round % 2 == 0 ? 65 : 5), new int[] {3, 50, 97}[round % 3]);
            overIs(Reference.of(Boards.laid(board, 1)).over(), board);
        }
    }

    private static void changesNothing() {
        ReversiSolver x = Boards.solvedTwoEmpty();
        x.isGameOver();
        checks.due("state after isGameOver", Boards.state(x), Boards.TWO_EMPTY + " side 1" + Boards.TWO_EMPTY_SOLUTION);
    }
}
