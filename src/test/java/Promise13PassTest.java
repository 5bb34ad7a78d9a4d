/** Promise 13: a pass is taken only when the game is not over and the side to move has no move. */
public final class Promise13PassTest {
    private static final Checks checks = new Checks();

    public static void main(String[] args) {
        passed(Boards.TWO_EMPTY, 2);
        passed(Boards.TWO_EMPTY.replace('W', 'x').replace('B', 'W').replace('x', 'B'), 1);
        refused(Boards.START, 1, -3);
        refused(Boards.START, 2, -3);
        refused(Boards.TWO_EMPTY, 1, -3);
        for (int side = 1; side <= 2; side++) {
            refused(Boards.CLEAR, side, -2);
            refused(Boards.TWO_EMPTY.replace('W', 'B'), side, -2);
            refused(Boards.TWO_EMPTY.replace('.', 'W'), side, -2);
            refused(Boards.TWO_EMPTY.replace('.', 'B'), side, -2);
        }
        neverTwice();
        randomBoards();
        checks.finish();
    }

    private static void passed(String board, int side) {
        ReversiSolver x = Boards.laid(board, side);
        x.solve();
        checks.due(board + ", side " + side + ", pass()", x.pass(), 0);
        checks.due(board + ", side " + side + ", pass(), state", Boards.state(x),
            board + " side " + (3 - side) + Boards.NOTHING_HELD);
    }

    private static void refused(String board, int side, int want) {
        ReversiSolver x = Boards.laid(board, side);
        x.solve();
        String before = Boards.state(x);
        checks.due(before + ", pass()", x.pass(), want);
        checks.due(before + ", pass(), state", Boards.state(x), before);
    }

    private static void neverTwice() {
        ReversiSolver x = Boards.laid(Boards.TWO_EMPTY, 2);
        checks.due("first pass()", x.pass(), 0);
        checks.due("second pass()", x.pass(), -3);
        checks.due("two passes, sideToMove()", x.sideToMove(), 1);
    }

    private static void randomBoards() {
        Numbers numbers = new Numbers(13);
        for (int round = 0; round < 3000; round++) {
            int side = 1 + round % 2;
            String board = numbers.board(numbers.below(12), new int[] {3, 50, 97, 90, 10}[round % 5]);
            Reference r = Reference.of(Boards.laid(board, side));
            if (r.over()) {
                refused(board, side, -2);
            } else if (r.moves(side).isEmpty()) {
                passed(board, side);
            } else {
                refused(board, side, -3);
            }
        }
    }
}
