import java.util.ArrayList;
import java.util.List;

/** Promise 16: pvLength and pvMove read the held line, and the line can be replayed to its value. */
public final class Promise16PvTest {
    private static final Checks checks = new Checks();

    public static void main(String[] args) {
        checks.holds("If no solution is held, it answers -1.", Promise16PvTest::noLength);
        checks.holds("Otherwise it answers the number of entries of the held PV, a number in 0..12.",
            Promise16PvTest::lengths);
        checks.holds("It answers entry i (0 = first) of the held PV, which is a square number 0..63 or PASS.",
            Promise16PvTest::entries);
        checks.holds("It answers -1 if no solution is held", Promise16PvTest::noMove);
        checks.holds("or if i is outside 0..pvLength()-1 (negative i included)", Promise16PvTest::outsideTheLine);
        checks.holds("Neither method changes anything.", Promise16PvTest::changesNothing);
        checks.holds("Suppose solve() has answered OK and no later call has made the held solution absent.",
            () -> replayAll(Promise16PvTest::heldUntilTheReplay));
        checks.holds("Then n >= 0.", Promise16PvTest::lengthWhileHeld);
        checks.holds("every one of these calls answers a non-negative number (OK or a flip count)",
            () -> replayAll(Promise16PvTest::entriesAreTaken));
        checks.holds("isGameOver() is false before each of them and true after the last",
            () -> replayAll(Promise16PvTest::overAfterTheLast));
        checks.holds("at the end, countDiscs(m) - countDiscs(opponent of m) equals the value read before the replay",
            () -> replayAll(Promise16PvTest::endsAtTheValue));
        checks.holds("When n is 0, the board was already over.", Promise16PvTest::emptyLines);
        checks.finish();
    }

    private static void noLength() {
        for (ReversiSolver x : Boards.holdingNone()) {
            checks.due(Boards.board(x) + ", pvLength()", x.pvLength(), -1);
        }
        ReversiSolver refused = new ReversiSolver();
        refused.solve();
        checks.due("refused solve, pvLength()", refused.pvLength(), -1);
    }

    private static void lengths() {
        for (int n = 0; n <= 12; n++) {
            checks.due("a line of " + n + ", pvLength()", Solutions.OF_LENGTH[n].solved().pvLength(), n);
        }
    }

    private static void entries() {
        for (Solutions known : Solutions.OF_LENGTH) {
            lineIs(known.solved(), known.line());
        }
        lineIs(Boards.solved(Boards.TWO_EMPTY, 1), 0, 64, 63);
        lineIs(Boards.solved(Boards.TWO_EMPTY, 2), 64, 0, 64, 63);
        Numbers numbers = new Numbers(16);
        int[] blackOf100 = {50, 3, 97, 20, 80, 8, 92};
        for (int round = 0; round < 700; round++) {
            int side = 1 + round % 2;
            ReversiSolver x = Boards.solved(numbers.board(numbers.below(7), blackOf100[round % 7]), side);
            lineIs(x, Reference.of(x).line(side).stream().mapToInt(i -> i).toArray());
        }
    }

    private static void lineIs(ReversiSolver x, int... line) {
        checks.due(Boards.board(x) + ", pvLength()", x.pvLength(), line.length);
        for (int i = 0; i < line.length; i++) {
            checks.due(Boards.board(x) + ", pvMove(" + i + ")", x.pvMove(i), line[i]);
        }
    }

    private static void noMove() {
        for (ReversiSolver x : Boards.holdingNone()) {
            for (int i : Edges.outside(0, -1)) {
                checks.due(Boards.board(x) + ", pvMove(" + i + ")", x.pvMove(i), -1);
            }
        }
    }

    private static void outsideTheLine() {
        for (int n = 0; n <= 12; n++) {
            ReversiSolver x = Solutions.OF_LENGTH[n].solved();
            for (int i : Edges.outside(0, n - 1)) {
                checks.due("a line of " + n + ", pvMove(" + i + ")", x.pvMove(i), -1);
            }
            if (n > 0) {
                checks.due("a line of " + n + ", pvMove(0) is there", x.pvMove(0) >= 0, true);
                checks.due("a line of " + n + ", pvMove(" + (n - 1) + ") is there", x.pvMove(n - 1) >= 0, true);
            }
        }
    }

    private static void changesNothing() {
        for (Known known : Known.all()) {
            List<Integer> line = known.line();
            known.unchangedBy(checks, "pvLength()", ReversiSolver::pvLength, known.held ? line.size() : -1);
            for (int i : new int[] {-1, 0, 1, 2, 5, 11, 12, 13, Integer.MIN_VALUE, Integer.MAX_VALUE}) {
                int want = i >= 0 && i < line.size() ? line.get(i) : -1;
                known.unchangedBy(checks, "pvMove(" + i + ")", x -> x.pvMove(i), want);
            }
        }
    }

    /** As long as no later call has made the solution absent: getters and refused calls make no difference. */
    private static void lengthWhileHeld() {
        for (int n = 0; n <= 12; n++) {
            ReversiSolver x = Solutions.OF_LENGTH[n].solved();
            callsThatKeepIt(x);
            checks.due("a line of " + n + ", refused calls, pvLength()", x.pvLength(), n);
        }
    }

    /** What one of the promise's facts on replaying looks at: a solved object, before its line is played. */
    private interface Replay {
        void of(ReversiSolver x, List<Integer> line);
    }

    private static void replayAll(Replay replay) {
        for (Solutions known : Solutions.OF_LENGTH) {
            replay(replay, known.board, known.side);
        }
        Numbers numbers = new Numbers(160);
        int[] blackOf100 = {50, 3, 97, 20, 80, 8, 92};
        for (int round = 0; round < 700; round++) {
            replay(replay, numbers.board(numbers.below(7), blackOf100[round % 7]), 1 + round % 2);
        }
    }

    private static void replay(Replay replay, String board, int side) {
        ReversiSolver x = Boards.solved(board, side);
        int length = x.pvLength();
        checks.due(board + ", pvLength() is in 0..12", length >= 0 && length <= 12, true);
        List<Integer> line = new ArrayList<>();
        for (int i = 0; i < length; i++) {
            line.add(x.pvMove(i));
        }
        replay.of(x, line);
    }

    private static int take(ReversiSolver x, int entry) {
        return entry == 64 ? x.pass() : x.play(entry);
    }

    /** The whole replay on one object, some time after the solve: only getters and refused calls have come between. */
    private static void heldUntilTheReplay(ReversiSolver x, List<Integer> line) {
        String board = Boards.board(x);
        int side = x.sideToMove();
        callsThatKeepIt(x);
        checks.due(board + ", pvLength() later", x.pvLength(), line.size());
        for (int i = line.size() - 1; i >= 0; i--) {
            checks.due(board + ", pvMove(" + i + ") later", x.pvMove(i), line.get(i));
        }
        int value = x.solvedValue();
        for (int entry : line) {
            checks.due(board + ", isGameOver() before " + entry + " of " + line, x.isGameOver(), false);
            checks.due(board + ", " + entry + " of " + line + " is taken", take(x, entry) >= 0, true);
        }
        checks.due(board + ", isGameOver() after " + line, x.isGameOver(), true);
        checks.due(board + ", discs after " + line, x.countDiscs(side) - x.countDiscs(3 - side), value);
    }

    private static void callsThatKeepIt(ReversiSolver x) {
        x.legalMask();
        x.isGameOver();
        x.pvMove(x.pvLength());
        x.play(64);
        x.setSquare(0, -1);
        x.setRow(7, 1, 1);
        x.setSideToMove(3);
        if (x.isGameOver() || x.legalMask() != 0) {
            x.pass();
        }
    }

    private static void entriesAreTaken(ReversiSolver x, List<Integer> line) {
        for (int entry : line) {
            String call = Boards.board(x) + ", " + entry + " of " + line + " is taken";
            checks.due(call, take(x, entry) >= 0, true);
        }
    }

    private static void overAfterTheLast(ReversiSolver x, List<Integer> line) {
        for (int entry : line) {
            checks.due(Boards.board(x) + ", isGameOver() before " + entry + " of " + line, x.isGameOver(), false);
            take(x, entry);
        }
        checks.due(Boards.board(x) + ", isGameOver() after " + line, x.isGameOver(), true);
    }

    private static void endsAtTheValue(ReversiSolver x, List<Integer> line) {
        int side = x.sideToMove();
        int value = x.solvedValue();
        for (int entry : line) {
            take(x, entry);
        }
        checks.due(Boards.board(x) + ", discs after " + line, x.countDiscs(side) - x.countDiscs(3 - side), value);
    }

    /** And the other way round: a board that is not over has a line. */
    private static void emptyLines() {
        for (ReversiSolver x : Boards.holding()) {
            checks.due(Boards.board(x) + ", pvLength() is 0", x.pvLength() == 0, x.isGameOver());
        }
        for (String board : new String[] {Boards.OVER, Boards.FULL, Boards.ALL_BLACK, Boards.ALL_WHITE, Boards.HALVES}) {
            for (int side = 1; side <= 2; side++) {
                ReversiSolver x = Boards.solved(board, side);
                checks.due(board + ", pvLength()", x.pvLength(), 0);
                checks.due(board + ", pvMove(0)", x.pvMove(0), -1);
                checks.due(board + ", isGameOver()", x.isGameOver(), true);
            }
        }
    }
}
