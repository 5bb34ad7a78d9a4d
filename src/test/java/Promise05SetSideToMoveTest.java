import java.util.List;

/** Promise 5: setSideToMove takes BLACK and WHITE alone, and never changes the board. */
public final class Promise05SetSideToMoveTest {
    private static final Checks checks = new Checks();

    public static void main(String[] args) {
        checks.holds("If who is neither BLACK nor WHITE (EMPTY included), it answers ERR_RANGE",
            Promise05SetSideToMoveTest::sideOutside);
        checks.holds("and changes nothing", Promise05SetSideToMoveTest::refusedChangesNothing);
        checks.holds("Otherwise the side to move becomes who, even if it already was who",
            Promise05SetSideToMoveTest::becomes);
        checks.holds("and the held solution becomes absent", Promise05SetSideToMoveTest::dropsTheSolution);
        checks.holds("The answer is OK.", Promise05SetSideToMoveTest::answersOk);
        checks.holds("The board never changes.", Promise05SetSideToMoveTest::boardUnchanged);
        checks.finish();
    }

    private static void sideOutside() {
        ReversiSolver x = new ReversiSolver();
        checks.due("setSideToMove(0)", x.setSideToMove(0), -1);
        for (int who : Edges.outside(1, 2)) {
            checks.due("setSideToMove(" + who + ")", x.setSideToMove(who), -1);
        }
    }

    private static void refusedChangesNothing() {
        List<Known> all = Known.all();
        for (int who : Edges.outside(1, 2)) {
            Known.unchangedBy(checks, all, "setSideToMove(" + who + ")", x -> x.setSideToMove(who), -1);
        }
    }

    private static void becomes() {
        for (ReversiSolver x : Boards.everyState()) {
            for (int who : new int[] {1, 1, 2, 2, 1}) {
                String before = Boards.state(x);
                x.setSideToMove(who);
                checks.due(before + ", setSideToMove(" + who + "), sideToMove()", x.sideToMove(), who);
            }
        }
    }

    private static void dropsTheSolution() {
        for (ReversiSolver x : Boards.holding()) {
            for (int who : new int[] {1, 1, 2, 2}) {
                x.solve();
                String before = Boards.state(x);
                x.setSideToMove(who);
                checks.due(before + ", setSideToMove(" + who + "), solution", Boards.solution(x), Boards.NOTHING_HELD);
            }
        }
    }

    private static void answersOk() {
        for (ReversiSolver x : Boards.everyState()) {
            for (int who : new int[] {2, 2, 1, 1}) {
                checks.due(Boards.state(x) + ", setSideToMove(" + who + ")", x.setSideToMove(who), 0);
            }
        }
    }

    private static void boardUnchanged() {
        for (ReversiSolver x : Boards.everyState()) {
            String board = Boards.board(x);
            for (int who : new int[] {1, 2, 0, 3, -1}) {
                x.setSideToMove(who);
                checks.due(board + ", setSideToMove(" + who + "), board", Boards.board(x), board);
            }
        }
    }
}
