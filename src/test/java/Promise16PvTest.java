import java.util.ArrayList;
import java.util.List;

/** Promise 16: pvLength and pvMove read the held line, and the line can be replayed to its value. */
public final class Promise16PvTest {
    private static final Checks checks = new Checks();
    private static final String TWELVE_ENTRIES =
        "BBBBBBBB BBBBBBBB BBBBB.BB .BBBBBBW BBBBBBBB BBBBB.BB BBB.BBBB BBBB.BB.";

    public static void main(String[] args) {
        nothingHeld();
        lineIs(Boards.TWO_EMPTY, 1, 0, 64, 63);
        lineIs(Boards.TWO_EMPTY, 2, 64, 0, 64, 63);
        lineIs(Boards.TWO_EMPTY.replace('W', 'B'), 1);
        lineIs(Boards.TWO_EMPTY.replace('.', 'W'), 2);
        lineIs(TWELVE_ENTRIES, 1, 64, 63, 64, 21, 64, 60, 64, 24, 64, 45, 64, 51);
        changesNothing();
        randomBoards();
        checks.finish();
    }

    private static void nothingHeld() {
        ReversiSolver fresh = new ReversiSolver();
        fresh.solve();
        ReversiSolver dropped = Boards.laid(TWELVE_ENTRIES, 1);
        dropped.solve();
        dropped.pass();
        for (ReversiSolver x : new ReversiSolver[] {fresh, dropped}) {
            checks.due("nothing held, pvLength()", x.pvLength(), -1);
            for (int i = -3; i < 20; i++) {
                checks.due("nothing held, pvMove(" + i + ")", x.pvMove(i), -1);
            }
        }
    }

    private static void lineIs(String board, int side, int... line) {
        ReversiSolver x = Boards.laid(board, side);
        x.solve();
        checks.due(board + ", pvLength()", x.pvLength(), line.length);
        for (int i = 0; i < line.length; i++) {
            checks.due(board + ", pvMove(" + i + ")", x.pvMove(i), line[i]);
        }
        int[] outside = {
            -1, -2, -64, line.length, line.length + 1, 12, 13, 64, 256, 65536, Integer.MIN_VALUE, Integer.MAX_VALUE
        };
        for (int i : outside) {
            if (i < 0 || i >= line.length) {
                checks.due(board + ", pvMove(" + i + ")", x.pvMove(i), -1);
            }
        }
        replay(board, side);
    }

    /** The calls of the promise's own paragraph on replaying, in its order. */
    private static void replay(String board, int side) {
        ReversiSolver x = Boards.laid(board, side);
        x.solve();
        int value = x.solvedValue();
        int length = x.pvLength();
        List<Integer> line = new ArrayList<>();
        for (int i = 0; i < length; i++) {
            line.add(x.pvMove(i));
        }
        checks.due(board + ", length of " + line, length >= 0 && length <= 12, true);
        for (int entry : line) {
            checks.due(board + ", isGameOver() before " + entry + " of " + line, x.isGameOver(), false);
            int answer = entry == 64 ? x.pass() : x.play(entry);
            checks.due(board + ", " + entry + " of " + line + " is taken", answer >= 0, true);
        }
        checks.due(board + ", isGameOver() after " + line, x.isGameOver(), true);
        checks.due(board + ", discs after " + line, x.countDiscs(side) - x.countDiscs(3 - side), value);
    }

    private static void changesNothing() {
        ReversiSolver x = Boards.solvedTwoEmpty();
        for (int i = -2; i < 14; i++) {
            x.pvMove(i);
            x.pvLength();
        }
        checks.due("state after pvMove", Boards.state(x), Boards.TWO_EMPTY + " side 1" + Boards.TWO_EMPTY_SOLUTION);
    }

    private static void randomBoards() {
        Numbers numbers = new Numbers(16);
        int[] blackOf100 = {50, 3, 97, 20, 80, 8, 92};
        for (int round = 0; round < 700; round++) {
            int side = 1 + round % 2;
            String board = numbers.board(numbers.below(7), blackOf100[round % 7]);
            int[] line = Reference.of(Boards.laid(board, side)).line(side).stream().mapToInt(i -> i).toArray();
            lineIs(board, side, line);
        }
    }
}
