import java.util.List;

/** Promise 6: getSquare answers a square's content, -1 off the board, and changes nothing. */
public final class Promise06GetSquareTest {
    private static final Checks checks = new Checks();

    public static void main(String[] args) {
        checks.holds("getSquare(int sq) answers the content of square sq (EMPTY, BLACK or WHITE) when sq is in 0..63.",
            Promise06GetSquareTest::everySquare);
        checks.holds("For any other sq it answers -1.", Promise06GetSquareTest::offTheBoard);
        checks.holds("It changes nothing.", Promise06GetSquareTest::changesNothing);
        checks.finish();
    }

    /** One odd square out, on boards of each content, and boards of all contents. */
    private static void everySquare() {
        for (String rest : new String[] {Boards.CLEAR, Boards.ALL_BLACK, Boards.ALL_WHITE}) {
            for (int sq = 0; sq < 64; sq++) {
                contentsOf(Boards.with(rest, sq, '.'));
                contentsOf(Boards.with(rest, sq, 'B'));
                contentsOf(Boards.with(rest, sq, 'W'));
            }
        }
        Numbers numbers = new Numbers(6);
        for (int round = 0; round < 100; round++) {
            contentsOf(numbers.board(numbers.below(65), 50));
        }
    }

    private static void contentsOf(String board) {
        ReversiSolver x = Boards.laid(board, 1);
        for (int sq = 0; sq < 64; sq++) {
            checks.due(board + ", getSquare(" + sq + ")", x.getSquare(sq), ".BW".indexOf(Boards.contentOf(board, sq)));
        }
    }

    private static void offTheBoard() {
        for (ReversiSolver x : Boards.everyState()) {
            for (int sq : Edges.outside(0, 63)) {
                checks.due("getSquare(" + sq + ")", x.getSquare(sq), -1);
            }
        }
    }

    private static void changesNothing() {
        List<Known> all = Known.all();
        for (Known known : all) {
            for (int sq = 0; sq < 64; sq++) {
                int square = sq;
                int want = known.board.cells[sq / 8][sq % 8];
                known.unchangedBy(checks, "getSquare(" + sq + ")", x -> x.getSquare(square), want);
            }
        }
        for (int sq : new int[] {-1, 64, Integer.MIN_VALUE, Integer.MAX_VALUE}) {
            Known.unchangedBy(checks, all, "getSquare(" + sq + ")", x -> x.getSquare(sq), -1);
        }
    }
}
