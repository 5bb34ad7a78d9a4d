/** Promise 5: setSideToMove takes BLACK and WHITE alone, and never changes the board. */
public final class Promise05SetSideToMoveTest {
    private static final Checks checks = new Checks();

    public static void main(String[] args) {
        for (int from = 1; from <= 2; from++) {
            for (int to = 1; to <= 2; to++) {
                change(from, to);
            }
            refused(from, 0);
            for (int who : Boards.NO_CONTENTS) {
                refused(from, who);
            }
        }
        checks.finish();
    }

    private static void change(int from, int to) {
        ReversiSolver x = Boards.laid(Boards.TWO_EMPTY, from);
        x.solve();
        checks.due("solved, side " + from + ", setSideToMove(" + to + ")", x.setSideToMove(to), 0);
        checks.due("solved, side " + from + ", setSideToMove(" + to + "), state", Boards.state(x),
            Boards.TWO_EMPTY + " side " + to + Boards.NOTHING_HELD);
    }

    private static void refused(int from, int who) {
        ReversiSolver x = Boards.laid(Boards.TWO_EMPTY, from);
        x.solve();
        String before = Boards.state(x);
        checks.due("side " + from + ", setSideToMove(" + who + ")", x.setSideToMove(who), -1);
        checks.due("side " + from + ", setSideToMove(" + who + "), state", Boards.state(x), before);
    }
}
