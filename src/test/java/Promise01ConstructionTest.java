/** Promise 1: a new object stands at the start position, with Black to move and nothing held. */
public final class Promise01ConstructionTest {
    private static final Checks checks = new Checks();

    public static void main(String[] args) {
        startState();
        nothingHeld();
        sameAsReset();
        objectsAreApart();
        checks.finish();
    }

    private static void startState() {
        ReversiSolver x = new ReversiSolver();
        for (int sq = 0; sq < 64; sq++) {
            int want = sq == 27 || sq == 36 ? 2 : sq == 28 || sq == 35 ? 1 : 0;
            checks.due("new, getSquare(" + sq + ")", x.getSquare(sq), want);
        }
        checks.due("new, sideToMove()", x.sideToMove(), 1);
    }

    private static void nothingHeld() {
        ReversiSolver x = new ReversiSolver();
        checks.due("new, solvedValue()", x.solvedValue(), -100);
        checks.due("new, pvLength()", x.pvLength(), -1);
        for (int i = -20; i <= 80; i++) {
            checks.due("new, pvMove(" + i + ")", x.pvMove(i), -1);
        }
        checks.due("new, pvMove(MIN)", x.pvMove(Integer.MIN_VALUE), -1);
        checks.due("new, pvMove(MAX)", x.pvMove(Integer.MAX_VALUE), -1);
    }

    private static void sameAsReset() {
        ReversiSolver x = Boards.solvedTwoEmpty();
        x.reset(0);
        checks.due("state after reset(0)", Boards.state(x), Boards.state(new ReversiSolver()));
    }

    private static void objectsAreApart() {
        ReversiSolver first = new ReversiSolver();
        ReversiSolver second = Boards.solvedTwoEmpty();
        checks.due("state of the first of two", Boards.state(first), Boards.START + " side 1" + Boards.NOTHING_HELD);
        first.reset(1);
        checks.due("state of the second of two", Boards.state(second),
            Boards.TWO_EMPTY + " side 1" + Boards.TWO_EMPTY_SOLUTION);
    }
}
