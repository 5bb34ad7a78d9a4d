import java.util.List;
import java.util.function.ToLongFunction;

/** Terms, Squares and State: where squares and bits lie, and what a call may change. */
public final class TermsStateTest {
    private static final Checks checks = new Checks();

    public static void main(String[] args) {
        checks.holds("The square number is sq = 8*row + col.", TermsStateTest::squareNumbers);
        checks.holds("Rows run 0..7 from top to bottom and columns run 0..7 from left to right.", TermsStateTest::corners);
        checks.holds("bit sq (the bit of value 1L << sq) stands for square sq", TermsStateTest::bitsOfAMask);
        checks.holds("Bit 63 is the sign bit of a Java long.", TermsStateTest::square63);
        checks.holds("Each square holds EMPTY, BLACK or WHITE.", TermsStateTest::oneContent);
        checks.holds("the side to move, which is always BLACK or WHITE", TermsStateTest::alwaysASide);
        checks.holds("Every successful call of reset, setSquare, setRow, setSideToMove, play and pass makes the held"
            + " solution absent.", TermsStateTest::successDrops);
        checks.holds("A refused call (one that answers a negative ERR_ code) changes nothing at all, including the held"
            + " solution.", TermsStateTest::refusedChangesNothing);
        checks.holds("Getters change nothing.", TermsStateTest::gettersChangeNothing);
        checks.holds("Legal moves, disc counts and game-over status can be read at any time.", TermsStateTest::anyTime);
        checks.finish();
    }

    private static void squareNumbers() {
        for (int row = 0; row < 8; row++) {
            for (int col = 0; col < 8; col++) {
                ReversiSolver x = Boards.laid(Boards.CLEAR, 1);
                x.setRow(row, 1 << col, 0);
                for (int sq = 0; sq < 64; sq++) {
                    checks.due("row " + row + ", col " + col + ", getSquare(" + sq + ")", x.getSquare(sq),
                        sq == 8 * row + col ? 1 : 0);
                }
            }
        }
    }

    /** Square 8 lies below square 0, not beside square 7: a column is a line, and so is a row. */
    private static void corners() {
        String board = "BW.....B W......W ........ ........ ........ ........ W....... B.....WB";
        long moves = 1L << 2 | 1L << 16 | 1L << 23 | 1L << 40 | 1L << 61;
        checks.due(board + ", legalMask()", Boards.laid(board, 1).legalMask(), moves);
        for (int row = -1; row <= 8; row++) {
            int want = row < 0 || row > 7 ? -1 : 0;
            checks.due("setRow(" + row + ", 1, 128)", new ReversiSolver().setRow(row, 1, 128), want);
        }
    }

    private static void bitsOfAMask() {
        for (int sq = 0; sq < 64; sq++) {
            int beside = sq % 8 < 6 ? sq + 1 : sq - 1;
            String board = Boards.with(Boards.with(Boards.ALL_BLACK, sq, '.'), beside, 'W');
            checks.due("only " + sq + ", legalMask()", Boards.laid(board, 1).legalMask(), 1L << sq);
        }
    }

    /** A set with its top bit is a negative number, which no count, walk or solve may trip over. */
    private static void square63() {
        ReversiSolver x = Boards.laid(Boards.CLEAR, 1);
        x.setRow(7, 128, 64);
        checks.due("getSquare(63)", x.getSquare(63), 1);
        checks.due("countDiscs(1)", x.countDiscs(1), 1);
        checks.due("countDiscs(2)", x.countDiscs(2), 1);
        checks.due("an own disc on 63, legalMask()", x.legalMask(), 1L << 61);
        checks.due("an own disc on 63, play(61)", x.play(61), 1);
        checks.due("an own disc on 63, board", Boards.board(x), Boards.CLEAR.substring(0, 63) + ".....BBB");
        String last = "WWWWWWWW WWWWWWWW WWWWWWWW WWWWWWWW WWWWWWWW WWWWWWWW WWWWWWWW WBBBBBB.";
        ReversiSolver white = Boards.solved(last, 2);
        checks.due("63 is left, isGameOver()", white.isGameOver(), false);
        checks.due("63 is left, isLegal(63)", white.isLegal(63), true);
        checks.due("63 is left, legalMask()", white.legalMask(), Long.MIN_VALUE);
        checks.due("63 is left, pass()", white.pass(), -3);
        checks.due("63 is left, solution", Boards.solution(white), " held 64: 63");
        checks.due("63 is left, play(63)", white.play(63), 6);
        checks.due("63 is played, board", Boards.board(white), Boards.ALL_WHITE);
        checks.due("63 is played, countDiscs(2)", white.countDiscs(2), 64);
    }

    private static void oneContent() {
        ReversiSolver x = Boards.laid(Boards.CLEAR, 1);
        for (int sq = 0; sq < 64; sq++) {
            for (int who : new int[] {1, 2, 1, 0, 2, 0}) {
                x.setSquare(sq, who);
                checks.due(sq + " set to " + who + ", getSquare(" + sq + ")", x.getSquare(sq), who);
                checks.due(sq + " set to " + who + ", countDiscs(1)", x.countDiscs(1), who == 1 ? 1 : 0);
                checks.due(sq + " set to " + who + ", countDiscs(2)", x.countDiscs(2), who == 2 ? 1 : 0);
            }
        }
    }

    private static void alwaysASide() {
        for (ReversiSolver x : Boards.everyState()) {
            for (int who : Edges.outside(1, 2)) {
                x.setSideToMove(who);
                checks.due("setSideToMove(" + who + "), a side", x.sideToMove() == 1 || x.sideToMove() == 2, true);
            }
            x.solve();
            x.pass();
            x.play(Long.numberOfTrailingZeros(x.legalMask()));
            checks.due("solve, pass, play, a side", x.sideToMove() == 1 || x.sideToMove() == 2, true);
        }
    }

    private static void drops(String call, int side, ToLongFunction<ReversiSolver> made) {
        ReversiSolver x = Boards.solved(Boards.TWO_EMPTY, side);
        checks.due("solved, side " + side + ", held", x.pvLength() >= 0, true);
        checks.due("solved, side " + side + ", " + call + " is taken", made.applyAsLong(x) >= 0, true);
        checks.due("solved, side " + side + ", " + call + ", solvedValue()", x.solvedValue(), -100);
        checks.due("solved, side " + side + ", " + call + ", pvLength()", x.pvLength(), -1);
        for (int i = -1; i <= 12; i++) {
            checks.due("solved, side " + side + ", " + call + ", pvMove(" + i + ")", x.pvMove(i), -1);
        }
    }

    /** Also where the call leaves the board and the side as they were. */
    private static void successDrops() {
        for (int side = 1; side <= 2; side++) {
            int same = side;
            drops("reset(0)", side, x -> afterReset(x, 0));
            drops("reset(1)", side, x -> afterReset(x, 1));
            drops("setSquare(5, 2)", side, x -> x.setSquare(5, 2));
            drops("setSquare(5, 1)", side, x -> x.setSquare(5, 1));
            drops("setSquare(0, 0)", side, x -> x.setSquare(0, 0));
            drops("setRow(3, 0, 255)", side, x -> x.setRow(3, 0, 255));
            drops("setRow(3, 255, 0)", side, x -> x.setRow(3, 255, 0));
            drops("setSideToMove to the other", side, x -> x.setSideToMove(3 - same));
            drops("setSideToMove to the same", side, x -> x.setSideToMove(same));
        }
        drops("play(0)", 1, x -> x.play(0));
        drops("play(63)", 1, x -> x.play(63));
        drops("pass()", 2, ReversiSolver::pass);
    }

    private static int afterReset(ReversiSolver x, int kind) {
        x.reset(kind);
        return 0;
    }

    private static void refusedChangesNothing() {
        List<Known> all = Known.all();
        for (int wrong : new int[] {-1, Integer.MIN_VALUE, 64, 300, Integer.MAX_VALUE}) {
            Known.unchangedBy(checks, all, "setSquare(" + wrong + ", 1)", x -> x.setSquare(wrong, 1), -1);
            Known.unchangedBy(checks, all, "setSquare(0, " + wrong + ")", x -> x.setSquare(0, wrong), -1);
            Known.unchangedBy(checks, all, "setRow(" + wrong + ", 1, 2)", x -> x.setRow(wrong, 1, 2), -1);
            Known.unchangedBy(checks, all, "setSideToMove(" + wrong + ")", x -> x.setSideToMove(wrong), -1);
            Known.unchangedBy(checks, all, "play(" + wrong + ")", x -> x.play(wrong), -1);
        }
        Known.unchangedBy(checks, all, "setRow(0, 256, 0)", x -> x.setRow(0, 256, 0), -1);
        Known.unchangedBy(checks, all, "setRow(0, 0, -1)", x -> x.setRow(0, 0, -1), -1);
        Known.unchangedBy(checks, all, "setRow(0, 3, 6)", x -> x.setRow(0, 3, 6), -1);
        Known.unchangedBy(checks, all, "setSideToMove(0)", x -> x.setSideToMove(0), -1);
        Known.unchangedBy(checks, all, "play(9)", x -> x.play(9), -3);
        for (Known known : all) {
            if (known.board.over()) {
                known.unchangedBy(checks, "pass()", ReversiSolver::pass, -2);
            } else if (!known.board.moves(known.side).isEmpty()) {
                known.unchangedBy(checks, "pass()", ReversiSolver::pass, -3);
            }
            if (known.board.count(0) > 6) {
                known.unchangedBy(checks, "solve()", ReversiSolver::solve, -4);
            }
        }
    }

    private static void gettersChangeNothing() {
        for (Known known : Known.all()) {
            ReversiSolver x = known.x;
            for (int argument = -2; argument < 70; argument++) {
                x.getSquare(argument);
                x.countDiscs(argument);
                x.isLegal(argument);
                x.pvMove(argument);
            }
            x.sideToMove();
            x.isGameOver();
            x.legalMask();
            x.solvedValue();
            x.pvLength();
            checks.due(known.state + ", all getters, state", Boards.state(x), known.state);
        }
    }

    private static void anyTime() {
        for (Known known : Known.all()) {
            checks.due(known.state + ", legalMask()", known.x.legalMask(), known.board.mask(known.side));
            checks.due(known.state + ", countDiscs(1)", known.x.countDiscs(1), known.board.count(1));
            checks.due(known.state + ", countDiscs(2)", known.x.countDiscs(2), known.board.count(2));
            checks.due(known.state + ", isGameOver()", known.x.isGameOver(), known.board.over());
        }
    }
}
