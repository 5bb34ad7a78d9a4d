/** Promise 15: solvedValue answers the held value from the solver's side, or NO_SOLUTION. */
public final class Promise15SolvedValueTest {
    private static final Checks checks = new Checks();

    public static void main(String[] args) {
        checks.holds("If no solution is held, it answers NO_SOLUTION.", Promise15SolvedValueTest::absent);
        checks.holds("Otherwise it answers the value of the held solution", Promise15SolvedValueTest::whileHeld);
        checks.holds("a number in -64..64", Promise15SolvedValueTest::extremes);
        checks.holds("The value is from the view of the side that was to move when solve succeeded",
            Promise15SolvedValueTest::view);
        checks.holds("and it equals V of the position at that time", Promise15SolvedValueTest::randomBoards);
        checks.holds("It changes nothing.", Promise15SolvedValueTest::changesNothing);
        checks.finish();
    }

    private static void noneAfter(String calls, ReversiSolver x) {
        checks.due(calls + ", solvedValue()", x.solvedValue(), -100);
    }

    private static void absent() {
        ReversiSolver x = new ReversiSolver();
        noneAfter("new", x);
        x.solve();
        noneAfter("refused solve", x);
        Boards.lay(x, Boards.TWO_EMPTY, 1);
        noneAfter("not solved", x);
        x.solve();
        x.play(0);
        noneAfter("solved, play(0)", x);
        x.solve();
        x.pass();
        noneAfter("solved, pass()", x);
        x.solve();
        x.setSideToMove(1);
        noneAfter("solved, setSideToMove(1)", x);
        x.solve();
        x.setSquare(5, 1);
        noneAfter("solved, setSquare(5, 1)", x);
        x.solve();
        x.setRow(5, 255, 0);
        noneAfter("solved, setRow(5, 255, 0)", x);
        x.solve();
        x.reset(0);
        noneAfter("solved, reset(0)", x);
    }

    /** Refused calls leave it, and so does asking twice. */
    private static void whileHeld() {
        for (Solutions known : Solutions.OF_LENGTH) {
            ReversiSolver x = known.solved();
            int want = Reference.of(x).value(known.side);
            checks.due(known.board + ", solvedValue()", x.solvedValue(), want);
            x.setSquare(64, 1);
            x.setSquare(0, 3);
            x.setRow(8, 0, 0);
            x.setRow(0, 1, 1);
            x.setSideToMove(0);
            x.play(-1);
            checks.due(known.board + ", refused calls, solvedValue()", x.solvedValue(), want);
        }
    }

    private static void valueIs(int want, String board, int side) {
        checks.due(board + ", side " + side + ", solvedValue()", Boards.solved(board, side).solvedValue(), want);
    }

    /** Both ends of the range and zero, on full boards and at the end of a line. */
    private static void extremes() {
        valueIs(64, Boards.ALL_BLACK, 1);
        valueIs(-64, Boards.ALL_BLACK, 2);
        valueIs(-64, Boards.ALL_WHITE, 1);
        valueIs(64, Boards.ALL_WHITE, 2);
        valueIs(64, Boards.TWO_EMPTY, 1);
        valueIs(-64, Boards.TWO_EMPTY, 2);
        valueIs(0, Boards.HALVES, 1);
        valueIs(0, Boards.HALVES, 2);
        // Black has one move, on square 1, and White takes everything with its answer on square 4.
        valueIs(-64, "W.WB.WWW WWWWWWWW WWWWWWWW WWWWWWWW WWWWWWWW WWWWWWWW WWWWWWWW WWWWWWWW", 1);
    }

    private static void view() {
        valueIs(58, "BB.BBBBB BBBBB.BB BBBBB.BB BBBBBBBB BBBBBBBB BBBBBB.. BBBBBBBB BBB.BBBB", 1);
        valueIs(-58, "BB.BBBBB BBBBB.BB BBBBB.BB BBBBBBBB BBBBBBBB BBBBBB.. BBBBBBBB BBB.BBBB", 2);
        valueIs(6, Boards.SIX_EMPTY, 1);
        valueIs(0, Boards.SIX_EMPTY, 2);
        valueIs(6, Boards.otherColours(Boards.SIX_EMPTY), 2);
        valueIs(0, Boards.otherColours(Boards.SIX_EMPTY), 1);
    }

    private static void randomBoards() {
        Numbers numbers = new Numbers(15);
        for (int round = 0; round < 600; round++) {
            int side = 1 + round % 2;
            String board = numbers.board(numbers.below(6), new int[] {50, 10, 90}[round % 3]);
            valueIs(Reference.of(Boards.laid(board, side)).value(side), board, side);
        }
    }

    private static void changesNothing() {
        for (Known known : Known.all()) {
            known.unchangedBy(checks, "solvedValue()", ReversiSolver::solvedValue, known.value());
        }
    }
}
