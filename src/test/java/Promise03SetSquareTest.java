import java.util.List;

/** Promise 3: setSquare changes one square, or refuses and changes nothing. */
public final class Promise03SetSquareTest {
    private static final Checks checks = new Checks();

    public static void main(String[] args) {
        checks.holds("If sq is outside 0..63 (including any negative sq), it answers ERR_RANGE.",
            Promise03SetSquareTest::squareOutside);
        checks.holds("If who is not one of EMPTY, BLACK, WHITE, it answers ERR_RANGE.",
            Promise03SetSquareTest::contentOutside);
        checks.holds("setSquare(int sq, int who) tests in this order", Promise03SetSquareTest::bothOutside);
        checks.holds("A refused call changes nothing: no square, not the side to move, not the held solution.",
            Promise03SetSquareTest::refusedChangesNothing);
        checks.holds("Otherwise, square sq becomes who and every other square is unchanged.",
            Promise03SetSquareTest::everySquareEveryContent);
        checks.holds("The side to move is unchanged.", Promise03SetSquareTest::sideUnchanged);
        checks.holds("The held solution becomes absent, even if the square already held who.",
            Promise03SetSquareTest::dropsTheSolution);
        checks.holds("The answer is OK.", Promise03SetSquareTest::answersOk);
        checks.holds("including boards with no discs", () -> layout(Boards.CLEAR));
        checks.holds("full boards", Promise03SetSquareTest::fullBoards);
        checks.holds("and boards that could not arise in a game", Promise03SetSquareTest::anyLayout);
        checks.finish();
    }

    private static void squareOutside() {
        ReversiSolver x = new ReversiSolver();
        for (int sq : Edges.outside(0, 63)) {
            for (int who = 0; who <= 2; who++) {
                checks.due("setSquare(" + sq + ", " + who + ")", x.setSquare(sq, who), -1);
            }
        }
    }

    private static void contentOutside() {
        ReversiSolver x = new ReversiSolver();
        for (int who : Edges.outside(0, 2)) {
            for (int sq = 0; sq < 64; sq++) {
                checks.due("setSquare(" + sq + ", " + who + ")", x.setSquare(sq, who), -1);
            }
        }
    }

    /** Both tests answer the same code, so all that shows is that the second wrong argument makes no difference. */
    private static void bothOutside() {
        ReversiSolver x = new ReversiSolver();
        for (int sq : new int[] {-1, 64, Integer.MIN_VALUE, Integer.MAX_VALUE}) {
            for (int who : Edges.outside(0, 2)) {
                checks.due("setSquare(" + sq + ", " + who + ")", x.setSquare(sq, who), -1);
            }
        }
    }

    private static void refusedChangesNothing() {
        List<Known> all = Known.all();
        for (int sq : Edges.outside(0, 63)) {
            int who = sq & 3;
            Known.unchangedBy(checks, all, "setSquare(" + sq + ", " + who + ")", x -> x.setSquare(sq, who), -1);
        }
        for (int who : new int[] {-1, 3, -2, 4, 257, 258, Integer.MIN_VALUE, Integer.MAX_VALUE}) {
            for (int sq = 0; sq < 64; sq++) {
                int square = sq;
                Known.unchangedBy(checks, all, "setSquare(" + sq + ", " + who + ")", x -> x.setSquare(square, who), -1);
            }
        }
    }

    private static void everySquareEveryContent() {
        for (String rest : new String[] {Boards.CLEAR, Boards.ALL_BLACK, Boards.ALL_WHITE, Boards.TWO_EMPTY}) {
            for (int sq = 0; sq < 64; sq++) {
                for (int from = 0; from <= 2; from++) {
                    for (int to = 0; to <= 2; to++) {
                        change(Boards.with(rest, sq, ".BW".charAt(from)), sq, to);
                    }
                }
            }
        }
    }

    private static void change(String before, int sq, int to) {
        ReversiSolver x = Boards.laid(before, 1);
        String call = before + ", setSquare(" + sq + ", " + to + ")";
        checks.due(call, x.setSquare(sq, to), 0);
        checks.due(call + ", board", Boards.board(x), Boards.with(before, sq, ".BW".charAt(to)));
    }

    private static void sideUnchanged() {
        for (int side = 1; side <= 2; side++) {
            ReversiSolver x = Boards.laid(Boards.START, side);
            for (int sq = 0; sq < 64; sq++) {
                for (int who = 0; who <= 2; who++) {
                    x.setSquare(sq, who);
                    checks.due("side " + side + ", setSquare(" + sq + ", " + who + "), side", x.sideToMove(), side);
                }
            }
        }
    }

    private static void dropsTheSolution() {
        for (ReversiSolver x : Boards.holding()) {
            for (int sq = 0; sq < 64; sq++) {
                int same = x.getSquare(sq);
                x.solve();
                String before = Boards.state(x);
                checks.due(before + ", setSquare(" + sq + ", " + same + ")", x.setSquare(sq, same), 0);
                checks.due(before + ", setSquare(" + sq + ", " + same + "), solution", Boards.solution(x),
                    Boards.NOTHING_HELD);
            }
        }
        ReversiSolver x = Boards.solvedTwoEmpty();
        x.setSquare(10, 2);
        checks.due("solved, setSquare(10, 2), solution", Boards.solution(x), Boards.NOTHING_HELD);
    }

    /** On every state, for the first and the last square and content. */
    private static void answersOk() {
        for (ReversiSolver x : Boards.everyState()) {
            for (int sq : new int[] {0, 1, 62, 63}) {
                for (int who = 0; who <= 2; who++) {
                    checks.due("setSquare(" + sq + ", " + who + ")", x.setSquare(sq, who), 0);
                }
            }
        }
    }

    private static void layout(String board) {
        for (ReversiSolver x : Boards.everyState()) {
            Boards.lay(x, board, 2);
            checks.due("laid out, state", Boards.state(x), board + " side 2" + Boards.NOTHING_HELD);
        }
    }

    private static void fullBoards() {
        layout(Boards.ALL_BLACK);
        layout(Boards.ALL_WHITE);
        layout(Boards.HALVES);
        layout(Boards.FULL);
    }

    private static void anyLayout() {
        layout("B....... ........ ........ ........ ........ ........ ........ .......W");
        layout("........ ........ ........ ........ ........ ........ ........ .......W");
        Numbers numbers = new Numbers(3);
        for (int empties = 0; empties <= 64; empties++) {
            layout(numbers.board(empties, numbers.below(101)));
        }
    }
}
