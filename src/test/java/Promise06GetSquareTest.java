/** Promise 6: getSquare answers a square's content, -1 off the board, and changes nothing. */
public final class Promise06GetSquareTest {
    private static final Checks checks = new Checks();

    public static void main(String[] args) {
        Numbers numbers = new Numbers(6);
        for (int round = 0; round < 100; round++) {
            everySquare(numbers.board(numbers.below(65), 50));
        }
        offTheBoard(new ReversiSolver());
        offTheBoard(Boards.laid(Boards.TWO_EMPTY.replace('.', 'W'), 2));
        changesNothing();
        checks.finish();
    }

    private static void everySquare(String board) {
        ReversiSolver x = Boards.laid(board, 1);
        String squares = board.replace(" ", "");
        for (int sq = 0; sq < 64; sq++) {
            checks.due(board + ", getSquare(" + sq + ")", x.getSquare(sq), ".BW".indexOf(squares.charAt(sq)));
        }
    }

    private static void offTheBoard(ReversiSolver x) {
        for (int sq : Boards.NO_SQUARES) {
            checks.due("getSquare(" + sq + ")", x.getSquare(sq), -1);
        }
    }

    private static void changesNothing() {
        ReversiSolver x = Boards.solvedTwoEmpty();
        offTheBoard(x);
        for (int sq = 0; sq < 64; sq++) {
            x.getSquare(sq);
        }
        checks.due("state after getSquare", Boards.state(x), Boards.TWO_EMPTY + " side 1" + Boards.TWO_EMPTY_SOLUTION);
    }
}
