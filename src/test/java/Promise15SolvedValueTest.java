/** Promise 15: solvedValue answers the held value from the solver's side, or NO_SOLUTION. */
public final class Promise15SolvedValueTest {
    private static final Checks checks = new Checks();

    public static void main(String[] args) {
        absent();
        knownValues();
        staysWhileHeld();
        randomBoards();
        checks.finish();
    }

    private static void absent() {
        ReversiSolver x = new ReversiSolver();
        checks.due("new, solvedValue()", x.solvedValue(), -100);
        x.solve();
        checks.due("refused solve, solvedValue()", x.solvedValue(), -100);
        Boards.lay(x, Boards.TWO_EMPTY, 1);
        checks.due("not solved, solvedValue()", x.solvedValue(), -100);
        x.solve();
        x.play(0);
        checks.due("solved, play(0), solvedValue()", x.solvedValue(), -100);
        x.solve();
        x.pass();
        checks.due("solved, pass(), solvedValue()", x.solvedValue(), -100);
        x.solve();
        x.setSideToMove(1);
        checks.due("solved, setSideToMove(1), solvedValue()", x.solvedValue(), -100);
        x.solve();
        x.setSquare(5, 1);
        checks.due("solved, setSquare(5, 1), solvedValue()", x.solvedValue(), -100);
        x.solve();
        x.setRow(5, 255, 0);
        checks.due("solved, setRow(5, 255, 0), solvedValue()", x.solvedValue(), -100);
        x.solve();
        x.reset(0);
        checks.due("solved, reset(0), solvedValue()", x.solvedValue(), -100);
    }

    /** Both ends of the range, and zero. */
    private static void knownValues() {
        valueIs(64, Boards.CLEAR.replace('.', 'B'), 1);
        valueIs(-64, Boards.CLEAR.replace('.', 'B'), 2);
        valueIs(64, Boards.TWO_EMPTY, 1);
        valueIs(-64, Boards.TWO_EMPTY, 2);
        valueIs(0, "BBBBBBBB BBBBBBBB BBBBBBBB BBBBBBBB WWWWWWWW WWWWWWWW WWWWWWWW WWWWWWWW", 2);
        valueIs(58, "BB.BBBBB BBBBB.BB BBBBB.BB BBBBBBBB BBBBBBBB BBBBBB.. BBBBBBBB BBB.BBBB", 1);
        valueIs(-59, "BBBBBBBB BBBBBBBW BBBBBBB. B.BBBBBB BBBBBB.B BBBBBBBB BBB.BBB. BBBBBB.B", 2);
    }

    private static void valueIs(int want, String board, int side) {
        ReversiSolver x = Boards.laid(board, side);
        x.solve();
        checks.due(board + ", side " + side + ", solvedValue()", x.solvedValue(), want);
    }

    /** Getters and refused calls leave it, and so does asking twice. */
    private static void staysWhileHeld() {
        ReversiSolver x = Boards.solvedTwoEmpty();
        x.setSquare(64, 1);
        x.setSquare(0, 3);
        x.setRow(8, 0, 0);
        x.setRow(0, 1, 1);
        x.setSideToMove(0);
        x.play(-1);
        x.play(5);
        x.pass();
        x.isGameOver();
        x.legalMask();
        x.pvLength();
        x.pvMove(1);
        checks.due("after refused calls, solvedValue()", x.solvedValue(), 64);
        checks.due("asked twice, solvedValue()", x.solvedValue(), 64);
        checks.due("state after solvedValue", Boards.state(x), Boards.TWO_EMPTY + " side 1" + Boards.TWO_EMPTY_SOLUTION);
    }

    private static void randomBoards() {
        Numbers numbers = new Numbers(15);
        for (int round = 0; round < 600; round++) {
            int side = 1 + round % 2;
            String board = numbers.board(numbers.below(6), new int[] {50, 10, 90}[round % 3]);
            valueIs(Reference.of(Boards.laid(board, side)).value(side), board, side);
        }
    }
}
