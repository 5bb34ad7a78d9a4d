import java.util.Arrays;

/** Positions with their solutions, each in the form of Boards.solution; entry n has a line of n entries. */
final class Solutions {
    static final Solutions[] OF_LENGTH = {
        new Solutions(Boards.OVER, 1, " held 62:"),
        new Solutions("BBBBBBBB BBBB.WBB BBBBBB.B BBBBBBBB BBB.BBBB BBBBBBBB ..BBBBBB BBBBBB.B", 1, " held 59: 12"),
        new Solutions("BBBBBBBB BBBBBBBW BBBBBBB. B.BBBBBB BBBBBB.B BBBBBBBB BBB.BBB. BBBBBB.B", 2, " held -59: 64 23"),
        new Solutions("BBBBBB.B BBBBBBBB BBBBBBBB BBBBBBBB B.B.WBBB ..BBBBBB BBBBBBBW BBBBBBB.", 1, " held 60: 35 64 63"),
        new Solutions("BBBBBWBB BBBBBBBB BBBB.BBB .BBBBBBB BBBBBBBB B..B.BBB BBBBBBBB BBBBB.BB", 2,
            " held -57: 61 20 64 44"),
        new Solutions("WBWBBBBB BBBBBBBB BW.BB.B. B.BBB.BB BBBBWBBB BBBBBBB. BBBBBWBW BBBBBBBB", 1,
            " held 51: 47 18 25 29 21"),
        new Solutions(Boards.SIX_EMPTY, 1, " held 6: 15 52 31 38 27 10"),
        new Solutions(".BWWBWWB WWW.WWWB BBBBBWWW BWW.WBBB WBWWWBBW WWBWWBWW BBWWB.W. .BBBBWWW", 1,
            " held -2: 11 56 27 53 0 64 55"),
        new Solutions("BWBBBBBB BBBBBBBB B.BBWWBB B.WWWBB. ..BBBBBB BWWWB.BB WBBBBBBB BBWBBBBB", 1,
            " held 20: 32 17 33 25 64 31 64 45"),
        new Solutions("BWWBBB.B BBBWBBWB B.BBBBBB BBBWBB.B BBBBBBBB B.BB.BBB BWBWBB.B BBBBBBBB", 2,
            " held 4: 6 41 44 64 17 64 30 64 54"),
        new Solutions(".B.BBBBB BBBBBBBB BBBBBBBB BBBB.BWB BBB.BBBB BBBBBBBB BBB.B.BB BBBBBBBB", 1,
            " held 26: 64 28 35 2 64 53 64 0 64 51"),
        new Solutions("B.WWWW.B WWWWWWWW WBWWWWWW .WWWWWWW BW.WWWWW WWWWWWW. WBW.WWWW WWWWWWWB", 1,
            " held 34: 24 64 47 64 1 64 6 64 34 64 51"),
        new Solutions(Boards.TWELVE_ENTRIES, 1, Boards.TWELVE_ENTRIES_SOLUTION)
    };

    final String board;
    final int side;
    final String solution;

    private Solutions(String board, int side, String solution) {
        this.board = board;
        this.side = side;
        this.solution = solution;
    }

    ReversiSolver solved() {
        return Boards.solved(board, side);
    }

    int[] line() {
        String entries = solution.substring(solution.indexOf(':') + 1).trim();
        if (entries.isEmpty()) {
            return new int[0];
        }
        return Arrays.stream(entries.split(" ")).mapToInt(Integer::parseInt).toArray();
    }
}
