/** Promise 1: a new object stands at the start position, with Black to move and nothing held. */
public final class Promise01ConstructionTest {
    private static final Checks checks = new Checks();

    public static void main(String[] args) {
        checks.holds("new ReversiSolver() gives the same state as after reset(0)", Promise01ConstructionTest::sameAsReset);
        checks.holds("squares 27 and 36 hold WHITE", () -> hold(2, 27, 36));
        checks.holds("squares 28 and 35 hold BLACK", () -> hold(1, 28, 35));
        checks.holds("all other squares are EMPTY", Promise01ConstructionTest::othersEmpty);
        checks.holds("BLACK is to move", Promise01ConstructionTest::blackToMove);
        checks.holds("no solution is held", Promise01ConstructionTest::nothingHeld);
        checks.holds("solvedValue() answers NO_SOLUTION", Promise01ConstructionTest::noValue);
        checks.holds("pvLength() answers -1", Promise01ConstructionTest::noLength);
        checks.holds("pvMove(i) answers -1 for every i", Promise01ConstructionTest::noMove);
        checks.holds("two objects share nothing", Promise01ConstructionTest::objectsAreApart);
        checks.finish();
    }

    private static void sameAsReset() {
        for (ReversiSolver x : Boards.everyState()) {
            x.reset(0);
            checks.due("state after reset(0)", Boards.state(x), Boards.state(new ReversiSolver()));
            checks.due("mask after reset(0)", x.legalMask(), new ReversiSolver().legalMask());
        }
    }

    private static void hold(int content, int... squares) {
        ReversiSolver x = new ReversiSolver();
        for (int sq : squares) {
            checks.due("new, getSquare(" + sq + ")", x.getSquare(sq), content);
        }
        checks.due("new, countDiscs(" + content + ")", x.countDiscs(content), squares.length);
    }

    private static void othersEmpty() {
        ReversiSolver x = new ReversiSolver();
        for (int sq = 0; sq < 64; sq++) {
            if (sq != 27 && sq != 28 && sq != 35 && sq != 36) {
                checks.due("new, getSquare(" + sq + ")", x.getSquare(sq), 0);
            }
        }
    }

    private static void blackToMove() {
        checks.due("new, sideToMove()", new ReversiSolver().sideToMove(), 1);
    }

    private static void nothingHeld() {
        checks.due("new, solution", Boards.solution(new ReversiSolver()), Boards.NOTHING_HELD);
    }

    private static void noValue() {
        checks.due("new, solvedValue()", new ReversiSolver().solvedValue(), -100);
    }

    private static void noLength() {
        checks.due("new, pvLength()", new ReversiSolver().pvLength(), -1);
    }

    private static void noMove() {
        ReversiSolver x = new ReversiSolver();
        for (int i : Edges.outside(0, -1)) {
            checks.due("new, pvMove(" + i + ")", x.pvMove(i), -1);
        }
        for (int i = 0; i <= 64; i++) {
            checks.due("new, pvMove(" + i + ")", x.pvMove(i), -1);
        }
    }

    private static void objectsAreApart() {
        ReversiSolver first = new ReversiSolver();
        ReversiSolver second = Boards.solvedTwoEmpty();
        checks.due("state of the first of two", Boards.state(first), Boards.START + " side 1" + Boards.NOTHING_HELD);
        first.reset(1);
        checks.due("state of the second of two", Boards.state(second),
            Boards.TWO_EMPTY + " side 1" + Boards.TWO_EMPTY_SOLUTION);
    }
}
