/** Promise 10: isLegal tells the legal moves of the side to move, and false for all else. */
public final class Promise10IsLegalTest {
    private static final Checks checks = new Checks();

    public static void main(String[] args) {
        opening();
        eachDirectionEachLength();
        runsWithoutAnEnd();
        linesDoNotWrap();
        offTheBoard();
        overBoards();
        randomBoards();
        changesNothing();
        checks.finish();
    }

    private static void legalAre(ReversiSolver x, int... squares) {
        long want = 0;
        for (int sq : squares) {
            want |= 1L << sq;
        }
        for (int sq = 0; sq < 64; sq++) {
            checks.due(Boards.state(x) + ", isLegal(" + sq + ")", x.isLegal(sq), (want >>> sq & 1) == 1);
        }
    }

    private static void opening() {
        ReversiSolver x = new ReversiSolver();
        legalAre(x, 19, 26, 37, 44);
        x.setSideToMove(2);
        legalAre(x, 20, 29, 34, 43);
    }

    /** From every square, every line of enemy discs that fits, closed by an own disc. */
    private static void eachDirectionEachLength() {
        for (int sq = 0; sq < 64; sq++) {
            for (int direction = 0; direction < 9; direction++) {
                int drow = direction / 3 - 1;
                int dcol = direction % 3 - 1;
                for (int length = 1; length <= 6 && direction != 4; length++) {
                    line(sq, drow, dcol, length);
                }
            }
        }
    }

    private static void line(int sq, int drow, int dcol, int length) {
        int endRow = sq / 8 + (length + 1) * drow;
        int endCol = sq % 8 + (length + 1) * dcol;
        if (endRow < 0 || endRow > 7 || endCol < 0 || endCol > 7) {
            return;
        }
        for (int side = 1; side <= 2; side++) {
            ReversiSolver x = Boards.laid(Boards.CLEAR, side);
            for (int step = 1; step <= length; step++) {
                x.setSquare(sq + step * (8 * drow + dcol), 3 - side);
            }
            String call = "from " + sq + " by " + drow + "," + dcol + " over " + length + ", isLegal(" + sq + ")";
            checks.due("not closed, " + call, x.isLegal(sq), false);
            x.setSquare(8 * endRow + endCol, side);
            checks.due(call, x.isLegal(sq), true);
            x.setSquare(sq, side);
            checks.due("own disc there, " + call, x.isLegal(sq), false);
            x.setSquare(sq, 3 - side);
            checks.due("enemy disc there, " + call, x.isLegal(sq), false);
            x.setSquare(sq, 0);
            x.setSquare(sq + length * (8 * drow + dcol), 0);
            checks.due("with a gap, " + call, x.isLegal(sq), false);
        }
    }

    private static void runsWithoutAnEnd() {
        legalAre(Boards.laid(".WWWWWWW ........ ........ ........ ........ ........ ........ ........", 1));
        legalAre(Boards.laid(".BBBBBBB ........ ........ ........ ........ ........ ........ ........", 1));
        legalAre(Boards.laid(".WWW.WB. ........ ........ ........ ........ ........ ........ ........", 1), 4);
        legalAre(Boards.laid(".WWWWWWB ........ ........ ........ ........ ........ ........ ........", 1), 0);
    }

    /** Square numbers run on from one row to the next; lines do not. */
    private static void linesDoNotWrap() {
        legalAre(Boards.laid("......W. B....... ........ ........ ........ ........ ........ ........", 1));
        legalAre(Boards.laid("......WW B....... ........ ........ ........ ........ ........ ........", 1));
        legalAre(Boards.laid(".......B WW...... ........ ........ ........ ........ ........ ........", 1));
        legalAre(Boards.laid("........ .......W ........ B....... ........ ........ ........ ........", 1));
        legalAre(Boards.laid("........ ......W. .......W ........ B....... ........ ........ ........", 1));
        legalAre(Boards.laid("........ .......B W....... ........ ........ ........ ........ ........", 1));
        legalAre(Boards.laid("........ ........ ........ ........ ........ ........ .......W B.......", 1));
        legalAre(Boards.laid("...W.... ........ ........ ........ ........ ........ ........ ...B....", 1));
        legalAre(Boards.laid("...B.... ........ ........ ........ ........ ........ ........ ...W....", 1));
    }

    private static void offTheBoard() {
        ReversiSolver start = new ReversiSolver();
        ReversiSolver corners = Boards.solvedTwoEmpty();
        for (int sq : Boards.NO_SQUARES) {
            checks.due("isLegal(" + sq + ")", start.isLegal(sq), false);
            checks.due("corners, isLegal(" + sq + ")", corners.isLegal(sq), false);
        }
        for (int sq : new int[] {19, 26, 37, 44}) {
            checks.due("isLegal(" + (sq + 64) + ")", start.isLegal(sq + 64), false);
            checks.due("isLegal(" + (sq - 64) + ")", start.isLegal(sq - 64), false);
            checks.due("isLegal(" + (sq - 128) + ")", start.isLegal(sq - 128), false);
        }
    }

    private static void overBoards() {
        for (int side = 1; side <= 2; side++) {
            legalAre(Boards.laid(Boards.CLEAR, side));
            legalAre(Boards.laid(Boards.TWO_EMPTY.replace('.', 'W'), side));
            legalAre(Boards.laid(Boards.TWO_EMPTY.replace('W', 'B'), side));
        }
    }

    private static void randomBoards() {
        Numbers numbers = new Numbers(10);
        for (int round = 0; round < 2000; round++) {
            int side = 1 + round % 2;
            String board = numbers.board(numbers.below(65), new int[] {10, 50, 90}[round % 3]);
            ReversiSolver x = Boards.laid(board, side);
            Reference r = Reference.of(x);
            for (int sq = 0; sq < 64; sq++) {
                checks.due(board + ", side " + side + ", isLegal(" + sq + ")", x.isLegal(sq), !r.flips(side, sq).isEmpty());
            }
        }
    }

    private static void changesNothing() {
        ReversiSolver x = Boards.solvedTwoEmpty();
        for (int sq = -2; sq < 66; sq++) {
            x.isLegal(sq);
        }
        checks.due("state after isLegal", Boards.state(x), Boards.TWO_EMPTY + " side 1" + Boards.TWO_EMPTY_SOLUTION);
    }
}
