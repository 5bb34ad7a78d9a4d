/** Promise 13: a pass is taken only when the game is not over and the side to move has no move. */
public final class Promise13PassTest {
    private static final Checks checks = new Checks();
    private static final String ONE_CAN_MOVE = "BW...... ........ ........ ........ ........ ........ ........ ........";

    public static void main(String[] args) {
        checks.holds("If the board is over, it answers ERR_OVER.", Promise13PassTest::over);
        checks.holds("If the side to move has a legal move, it answers ERR_ILLEGAL.", Promise13PassTest::hasMove);
        checks.holds("pass() tests in this order", Promise13PassTest::overComesFirst);
        checks.holds("A refused call changes nothing.", Promise13PassTest::refusedChangesNothing);
        checks.holds("Otherwise, the side to move switches to the opponent", Promise13PassTest::sideSwitches);
        checks.holds("the board is unchanged", Promise13PassTest::boardUnchanged);
        checks.holds("the held solution becomes absent", Promise13PassTest::dropsTheSolution);
        checks.holds("and the answer is OK", Promise13PassTest::taken);
        checks.holds("Two passes never follow each other", Promise13PassTest::neverTwice);
        checks.holds("each of the three answers in its place, on random boards", Promise13PassTest::randomBoards);
        checks.finish();
    }

    private static void answers(String board, int side, int want) {
        checks.due(board + ", side " + side + ", pass()", Boards.laid(board, side).pass(), want);
    }

    private static void over() {
        String apart = "B....... ........ ........ ........ ........ ........ ........ .......W";
        String[] boards = {Boards.CLEAR, Boards.OVER, Boards.FULL, Boards.ALL_BLACK, Boards.ALL_WHITE, apart};
        for (String board : boards) {
            answers(board, 1, -2);
            answers(board, 2, -2);
        }
    }

    /** A single move on any square is enough, on square 63 as well. */
    private static void hasMove() {
        answers(Boards.START, 1, -3);
        answers(Boards.START, 2, -3);
        answers(ONE_CAN_MOVE, 1, -3);
        for (int sq = 0; sq < 64; sq++) {
            int beside = sq % 8 < 6 ? sq + 1 : sq - 1;
            String board = Boards.with(Boards.with(Boards.ALL_BLACK, sq, '.'), beside, 'W');
            answers(board, 1, -3);
            answers(Boards.otherColours(board), 2, -3);
        }
    }

    /** The three answers one after the other: over comes first, though an over board has no move either. */
    private static void overComesFirst() {
        ReversiSolver x = Boards.laid(Boards.TWO_EMPTY, 1);
        checks.due("a move is there, pass()", x.pass(), -3);
        x.play(0);
        checks.due("no move is there, pass()", x.pass(), 0);
        x.play(63);
        checks.due("the board is over, pass()", x.pass(), -2);
        checks.due("the board is over, pass() again", x.pass(), -2);
    }

    private static void refusedChangesNothing() {
        for (Known known : Known.all()) {
            if (known.board.over()) {
                known.unchangedBy(checks, "pass()", ReversiSolver::pass, -2);
            } else if (!known.board.moves(known.side).isEmpty()) {
                known.unchangedBy(checks, "pass()", ReversiSolver::pass, -3);
            }
        }
    }

    private static void sideSwitches() {
        for (int side = 1; side <= 2; side++) {
            ReversiSolver x = mustPass(side);
            x.pass();
            checks.due("side " + side + ", pass(), sideToMove()", x.sideToMove(), 3 - side);
        }
    }

    private static void boardUnchanged() {
        for (int side = 1; side <= 2; side++) {
            ReversiSolver x = mustPass(side);
            String before = Boards.board(x);
            x.pass();
            checks.due("side " + side + ", pass(), board", Boards.board(x), before);
        }
    }

    private static void dropsTheSolution() {
        for (int side = 1; side <= 2; side++) {
            ReversiSolver x = mustPass(side);
            x.solve();
            checks.due("side " + side + ", pvMove(0)", x.pvMove(0), 64);
            x.pass();
            checks.due("side " + side + ", pass(), solution", Boards.solution(x), Boards.NOTHING_HELD);
        }
    }

    private static void taken() {
        checks.due("side 1, pass()", mustPass(1).pass(), 0);
        checks.due("side 2, pass()", mustPass(2).pass(), 0);
        answers(ONE_CAN_MOVE, 2, 0);
        answers(Boards.otherColours(ONE_CAN_MOVE), 1, 0);
    }

    private static ReversiSolver mustPass(int side) {
        return Boards.laid(side == 2 ? Boards.TWO_EMPTY : Boards.otherColours(Boards.TWO_EMPTY), side);
    }

    private static void neverTwice() {
        for (int side = 1; side <= 2; side++) {
            ReversiSolver x = mustPass(side);
            checks.due("first pass()", x.pass(), 0);
            checks.due("second pass()", x.pass(), -3);
            checks.due("two passes, sideToMove()", x.sideToMove(), 3 - side);
        }
    }

    private static void randomBoards() {
        Numbers numbers = new Numbers(13);
        for (int round = 0; round < 3000; round++) {
            int side = 1 + round % 2;
            String board = numbers.board(numbers.below(12), new int[] {3, 50, 97, 90, 10}[round % 5]);
            Reference r = Reference.of(Boards.laid(board, side));
            boolean stuck = r.moves(side).isEmpty();
            answers(board, side, r.over() ? -2 : stuck ? 0 : -3);
        }
    }
}
