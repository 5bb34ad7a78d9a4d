/** Promise 10: isLegal tells the legal moves of the side to move, and false for all else. */
public final class Promise10IsLegalTest {
    private static final Checks checks = new Checks();

    public static void main(String[] args) {
        checks.holds("isLegal(int sq) answers true if and only if sq is in 0..63 and square sq is a legal move of the side"
            + " to move.", Promise10IsLegalTest::legalMoves);
        checks.holds("a move of the other side alone is none", Promise10IsLegalTest::otherSidesMoves);
        checks.holds("For sq outside 0..63 it answers false.", Promise10IsLegalTest::offTheBoard);
        checks.holds("On an over board it answers false for every sq.", Promise10IsLegalTest::overBoards);
        checks.holds("It changes nothing.", Promise10IsLegalTest::changesNothing);
        checks.finish();
    }

    private static void legalAre(ReversiSolver x, int... squares) {
        long want = 0;
        for (int sq : squares) {
            want |= 1L << sq;
        }
        for (int sq = 0; sq < 64; sq++) {
            checks.due(Boards.state(x) + ", isLegal(" + sq + ")", x.isLegal(sq), (want >>> sq & 1) == 1);
        }
    }

    private static void legalMoves() {
        legalAre(Boards.laid(Boards.START, 1), 19, 26, 37, 44);
        legalAre(Boards.laid(Boards.START, 2), 20, 29, 34, 43);
        legalAre(Boards.laid(Boards.TWO_EMPTY, 1), 0, 63);
        Numbers numbers = new Numbers(10);
        for (int round = 0; round < 2000; round++) {
            int side = 1 + round % 2;
            String board = numbers.board(numbers.below(65), new int[] {10, 50, 90}[round % 3]);
            ReversiSolver x = Boards.laid(board, side);
            Reference r = Reference.of(x);
            for (int sq = 0; sq < 64; sq++) {
                checks.due(board + ", side " + side + ", isLegal(" + sq + ")", x.isLegal(sq), !r.flips(side, sq).isEmpty());
            }
        }
    }

    private static void otherSidesMoves() {
        legalAre(Boards.laid(Boards.TWO_EMPTY, 2));
        legalAre(Boards.laid(Boards.otherColours(Boards.TWO_EMPTY), 1));
        legalAre(Boards.laid("BW...... ........ ........ ........ ........ ........ ........ ........", 1), 2);
        legalAre(Boards.laid("BW...... ........ ........ ........ ........ ........ ........ ........", 2));
    }

    /** On the last three boards a square just off the board would outflank a line, if it were one. */
    private static void offTheBoard() {
        String[] boards = {
            Boards.START, Boards.CLEAR, Boards.TWO_EMPTY, Boards.OVER, Boards.FULL,
            ".WWWWWW. WBBBBBBW WB....BW WB....BW WB....BW WB....BW WBBBBBBW .WWWWWW.",
            "........ ........ ........ ........ ........ ........ BBBBBBBB WWWWWWWW",
            "WWWWWWWW BBBBBBBB ........ ........ ........ ........ ........ ........"
        };
        for (String board : boards) {
            for (int sq : Edges.outside(0, 63)) {
                checks.due(board + ", isLegal(" + sq + ")", Boards.laid(board, 1).isLegal(sq), false);
                checks.due(board + ", isLegal(" + sq + ")", Boards.laid(board, 2).isLegal(sq), false);
            }
        }
    }

    private static void overBoards() {
        String apart = "B....... ........ ........ ........ ........ ........ ........ .......W";
        for (String board : new String[] {Boards.CLEAR, Boards.OVER, Boards.FULL, Boards.ALL_WHITE, apart}) {
            legalAre(Boards.laid(board, 1));
            legalAre(Boards.laid(board, 2));
            for (int sq : Edges.outside(0, 63)) {
                checks.due(board + ", isLegal(" + sq + ")", Boards.laid(board, 1).isLegal(sq), false);
            }
        }
    }

    private static void changesNothing() {
        for (Known known : Known.all()) {
            for (int sq = -2; sq < 66; sq++) {
                int square = sq;
                long want = known.board.moves(known.side).contains(sq) ? 1 : 0;
                known.unchangedBy(checks, "isLegal(" + sq + ")", x -> x.isLegal(square) ? 1 : 0, want);
            }
        }
    }
}
