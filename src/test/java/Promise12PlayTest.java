import java.util.List;

/** Promise 12: play flips every outflanked line and nothing else, or refuses and changes nothing. */
public final class Promise12PlayTest {
    private static final Checks checks = new Checks();

    public static void main(String[] args) {
        checks.holds("If sq is outside 0..63, it answers ERR_RANGE.", Promise12PlayTest::squareOutside);
        checks.holds("If sq is not a legal move of the side to move, it answers ERR_ILLEGAL.", Promise12PlayTest::illegal);
        checks.holds("This includes every sq when the board is over", Promise12PlayTest::illegalWhenOver);
        checks.holds("or the side to move has no legal move", Promise12PlayTest::illegalWithoutMove);
        checks.holds("It tests in this order", Promise12PlayTest::rangeComesFirst);
        checks.holds("A refused call changes nothing.", Promise12PlayTest::refusedChangesNothing);
        checks.holds("the move is played exactly as described under Legal move", Promise12PlayTest::playedExactly);
        checks.holds("the side to move switches to the opponent", Promise12PlayTest::sideSwitches);
        checks.holds("the held solution becomes absent", Promise12PlayTest::dropsTheSolution);
        checks.holds("the answer is the number of discs flipped, at least 1", Promise12PlayTest::flipCounts);
        checks.holds("No pass is ever made automatically.", Promise12PlayTest::noPassByItself);
        checks.holds("After the call, the new side to move may have no legal move, and the board may be over.",
            Promise12PlayTest::afterTheLastMove);
        checks.finish();
    }

    private static void squareOutside() {
        ReversiSolver start = new ReversiSolver();
        ReversiSolver corners = Boards.laid(Boards.TWO_EMPTY, 1);
        for (int sq : Edges.outside(0, 63)) {
            checks.due("start, play(" + sq + ")", start.play(sq), -1);
            checks.due("corners, play(" + sq + ")", corners.play(sq), -1);
        }
    }

    /** Occupied squares, empty ones that outflank nothing, and the other side's moves. */
    private static void illegal() {
        for (ReversiSolver x : Boards.everyState()) {
            for (int sq = 0; sq < 64; sq++) {
                if (Reference.of(x).flips(x.sideToMove(), sq).isEmpty()) {
                    checks.due(Boards.state(x) + ", play(" + sq + ")", x.play(sq), -3);
                }
            }
        }
        for (int sq : new int[] {20, 29, 34, 43, 27, 28, 35, 36, 0, 63, 18, 21, 42, 45}) {
            checks.due("start, play(" + sq + ")", new ReversiSolver().play(sq), -3);
        }
    }

    private static void illegalEverywhere(String board, int side) {
        ReversiSolver x = Boards.laid(board, side);
        for (int sq = 0; sq < 64; sq++) {
            checks.due(board + ", side " + side + ", play(" + sq + ")", x.play(sq), -3);
        }
    }

    private static void illegalWhenOver() {
        String apart = "B....... ........ ........ ........ ........ ........ ........ .......W";
        String[] boards = {Boards.CLEAR, Boards.OVER, Boards.FULL, Boards.ALL_BLACK, Boards.ALL_WHITE, apart};
        for (String board : boards) {
            illegalEverywhere(board, 1);
            illegalEverywhere(board, 2);
        }
    }

    private static void illegalWithoutMove() {
        illegalEverywhere(Boards.TWO_EMPTY, 2);
        illegalEverywhere(Boards.otherColours(Boards.TWO_EMPTY), 1);
        illegalEverywhere("BW...... ........ ........ ........ ........ ........ ........ ........", 2);
    }

    /** Off the board nothing is legal either, yet the answer is the one of the first test. */
    private static void rangeComesFirst() {
        for (ReversiSolver x : Boards.everyState()) {
            for (int sq : Edges.outside(0, 63)) {
                checks.due(Boards.board(x) + ", play(" + sq + ")", x.play(sq), -1);
            }
        }
    }

    private static void refusedChangesNothing() {
        List<Known> all = Known.all();
        for (int sq : Edges.outside(0, 63)) {
            Known.unchangedBy(checks, all, "play(" + sq + ")", x -> x.play(sq), -1);
        }
        for (Known known : all) {
            for (int sq = 0; sq < 64; sq++) {
                int square = sq;
                if (known.board.flips(known.side, sq).isEmpty()) {
                    known.unchangedBy(checks, "play(" + sq + ")", x -> x.play(square), -3);
                }
            }
        }
    }

    private static void played(String before, int sq, String after) {
        for (int side = 1; side <= 2; side++) {
            ReversiSolver x = Boards.laid(side == 1 ? before : Boards.otherColours(before), side);
            x.play(sq);
            checks.due(before + ", for " + side + ", play(" + sq + "), board", Boards.board(x),
                side == 1 ? after : Boards.otherColours(after));
        }
    }

    private static void playedExactly() {
        played(Boards.START, 19, "........ ........ ...B.... ...BB... ...BW... ........ ........ ........");
        // All eight directions at once, each run as long as it can be.
        played("B..B..B. .W.W.W.. ..WWW... BWW.WWWB ..WWW... .W.W.W.. B..W..W. ...B...B", 27,
            "B..B..B. .B.B.B.. ..BBB... BBBBBBBB ..BBB... .B.B.B.. B..B..B. ...B...B");
        // A run stops at the first own disc; what lies behind it stays.
        played(".WBWB... ........ ........ ........ ........ ........ ........ ........", 0,
            "BBBWB... ........ ........ ........ ........ ........ ........ ........");
        // A line that ends at an empty square or at the edge flips nothing while another does.
        played("WWW.WWB. ...W.... ........ ...W.... ...B.... ........ ........ ........", 3,
            "WWWBBBB. ...W.... ........ ...W.... ...B.... ........ ........ ........");
        // A flipped disc outflanks nothing by itself.
        played(".WB..... .W...... .B...... ........ ........ ........ ........ ........", 0,
            "BBB..... .W...... .B...... ........ ........ ........ ........ ........");
        played(Boards.TWO_EMPTY, 0, Boards.TWO_EMPTY.replace(".WB", "BBB"));
        played(Boards.TWO_EMPTY, 63, Boards.TWO_EMPTY.replace("BW.", "BBB"));
        randomMoves();
    }

    private static void randomMoves() {
        Numbers numbers = new Numbers(12);
        for (int round = 0; round < 1000; round++) {
            int side = 1 + round % 2;
            String board = numbers.board(numbers.below(65), new int[] {20, 50, 80}[round % 3]);
            Reference r = Reference.of(Boards.laid(board, side));
            for (int sq : r.moves(side)) {
                ReversiSolver x = Boards.laid(board, side);
                String call = board + ", side " + side + ", play(" + sq + ")";
                checks.due(call, x.play(sq), r.flips(side, sq).size());
                checks.due(call + ", board", Boards.board(x), r.after(side, sq).text());
            }
        }
    }

    private static void sideSwitches() {
        for (int side = 1; side <= 2; side++) {
            ReversiSolver x = Boards.laid(Boards.START, side);
            x.play(side == 1 ? 19 : 20);
            checks.due("side " + side + ", a move, sideToMove()", x.sideToMove(), 3 - side);
            ReversiSolver last = Boards.laid(side == 1 ? Boards.TWO_EMPTY : Boards.otherColours(Boards.TWO_EMPTY), side);
            last.play(63);
            checks.due("side " + side + ", play(63), sideToMove()", last.sideToMove(), 3 - side);
        }
    }

    private static void dropsTheSolution() {
        for (ReversiSolver x : Boards.holding()) {
            int sq = Long.numberOfTrailingZeros(x.legalMask());
            if (sq < 64) {
                String before = Boards.state(x);
                checks.due(before + ", play(" + sq + ") is taken", x.play(sq) > 0, true);
                checks.due(before + ", play(" + sq + "), solution", Boards.solution(x), Boards.NOTHING_HELD);
            }
        }
    }

    private static void flipsAre(String board, int sq, int want) {
        checks.due(board + ", play(" + sq + ")", Boards.laid(board, 1).play(sq), want);
        checks.due(board + ", other colours, play(" + sq + ")", Boards.laid(Boards.otherColours(board), 2).play(sq), want);
    }

    /** From one disc, the fewest, to nineteen, the most that one move can flip. */
    private static void flipCounts() {
        flipsAre(Boards.START, 19, 1);
        flipsAre(Boards.TWO_EMPTY, 0, 1);
        flipsAre(Boards.TWO_EMPTY, 63, 1);
        flipsAre("........ ........ ........ ........ ........ ........ ........ BWWWWWW.", 63, 6);
        flipsAre(".WWWWWWB WW...... W.W..... W..W.... W...W... W....W.. W.....W. B......B", 0, 18);
        flipsAre("B..B..B. .W.W.W.. ..WWW... BWW.WWWB ..WWW... .W.W.W.. B..W..W. ...B...B", 27, 19);
    }

    private static void noPassByItself() {
        ReversiSolver x = Boards.laid(Boards.TWO_EMPTY, 1);
        x.play(0);
        checks.due("play(0), sideToMove()", x.sideToMove(), 2);
        checks.due("play(0), play(63)", x.play(63), -3);
        checks.due("play(0), pass()", x.pass(), 0);
        checks.due("play(0), pass(), play(63)", x.play(63), 1);
    }

    private static void afterTheLastMove() {
        ReversiSolver x = Boards.laid(Boards.TWO_EMPTY, 1);
        x.play(0);
        checks.due("play(0), legalMask()", x.legalMask(), 0);
        checks.due("play(0), isGameOver()", x.isGameOver(), false);
        x.pass();
        x.play(63);
        checks.due("play(0), pass(), play(63), isGameOver()", x.isGameOver(), true);
        checks.due("play(0), pass(), play(63), sideToMove()", x.sideToMove(), 2);
        ReversiSolver wiped = Boards.laid("BW...... ........ ........ ........ ........ ........ ........ ........", 1);
        wiped.play(2);
        checks.due("no white disc left, isGameOver()", wiped.isGameOver(), true);
        checks.due("no white disc left, sideToMove()", wiped.sideToMove(), 2);
    }
}
