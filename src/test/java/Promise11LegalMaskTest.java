/** Promise 11: legalMask has bit sq set exactly when isLegal(sq) is true. */
public final class Promise11LegalMaskTest {
    private static final Checks checks = new Checks();

    public static void main(String[] args) {
        knownMasks();
        oneMoveOnEachSquare();
        randomBoards();
        changesNothing();
        checks.finish();
    }

    private static void knownMasks() {
        maskIs(Boards.START, 1, 1L << 19 | 1L << 26 | 1L << 37 | 1L << 44);
        maskIs(Boards.START, 2, 1L << 20 | 1L << 29 | 1L << 34 | 1L << 43);
        maskIs(Boards.CLEAR, 1, 0);
        maskIs(Boards.CLEAR, 2, 0);
        maskIs(Boards.TWO_EMPTY, 1, Long.MIN_VALUE + 1);
        maskIs(Boards.TWO_EMPTY, 2, 0);
        maskIs(Boards.with(Boards.TWO_EMPTY, 0, 'B'), 1, Long.MIN_VALUE);
        maskIs(Boards.with(Boards.TWO_EMPTY, 63, 'B'), 1, 1);
        maskIs(Boards.TWO_EMPTY.replace('.', 'W'), 1, 0);
    }

    private static void maskIs(String board, int side, long want) {
        checks.due(board + ", side " + side + ", legalMask()", Boards.laid(board, side).legalMask(), want);
    }

    /** A full board of one's own with one empty square, and an enemy disc beside it. */
    private static void oneMoveOnEachSquare() {
        for (int sq = 0; sq < 64; sq++) {
            ReversiSolver x = Boards.laid(Boards.CLEAR.replace('.', 'W'), 2);
            x.setSquare(sq, 0);
            int beside = sq % 8 < 6 ? sq + 1 : sq - 1;
            x.setSquare(beside, 1);
            checks.due("only " + sq + ", legalMask()", x.legalMask(), 1L << sq);
        }
    }

    private static void randomBoards() {
        Numbers numbers = new Numbers(11);
        for (int round = 0; round < 2000; round++) {
            int side = 1 + round % 2;
            String board = numbers.board(numbers.below(65), new int[] {10, 50, 90}[round % 3]);
            ReversiSolver x = Boards.laid(board, side);
            long mask = x.legalMask();
            checks.due(board + ", side " + side + ", legalMask()", mask, Reference.of(x).mask(side));
            for (int sq = 0; sq < 64; sq++) {
                checks.due(board + ", side " + side + ", bit " + sq, (mask >>> sq & 1) == 1, x.isLegal(sq));
            }
        }
    }

    private static void changesNothing() {
        ReversiSolver x = Boards.solvedTwoEmpty();
        x.legalMask();
        checks.due("state after legalMask", Boards.state(x), Boards.TWO_EMPTY + " side 1" + Boards.TWO_EMPTY_SOLUTION);
    }
}
