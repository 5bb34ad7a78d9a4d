/** Promise 14: solve holds the exact value and the canonical line, or refuses more than six empty squares. */
public final class Promise14SolveTest {
    private static final Checks checks = new Checks();

    public static void main(String[] args) {
        knownSolutions();
        limit();
        overBoards();
        lowestOfEqualMoves();
        linesOfEveryLength();
        againIsTheSame();
        searchesLeaveNothingBehind();
        randomBoards();
        checks.finish();
    }

    private static void solved(String board, int side, String want) {
        ReversiSolver x = Boards.laid(board, side);
        String call = board + ", side " + side + ", solve()";
        checks.due(call, x.solve(), 0);
        checks.due(call + ", state", Boards.state(x), board + " side " + side + want);
        checks.due(call + ", by the reference", Reference.of(x).solution(side), want);
    }

    private static void knownSolutions() {
        solved(Boards.TWO_EMPTY, 1, Boards.TWO_EMPTY_SOLUTION);
        solved(Boards.TWO_EMPTY, 2, " held -64: 64 0 64 63");
        solved("BBBBBBBB BBBBBBBB BBBBBBBB BBBBBBBB BBBBBBBB BBBBBBBB BBBBBBBB BWWWWWW.", 1, " held 64: 63");
        solved("BBBBBBBB BBBBBBBB BBBBBBBB BBBBBBBB BBBBBBBB BBBBBBBB BBBBBBBB BWWWWWW.", 2, " held -64: 64 63");
        solved("WWBBWBBB WB.BWWW. WWBBWWBB BBW.WWW. BWBWWW.W BWBWBBWB WWWB.WWW BWBBBBWB", 1,
            " held 6: 15 52 31 38 27 10");
        solved("WWBBWBBB WB.BWWW. WWBBWWBB BBW.WWW. BWBWWW.W BWBWBBWB WWWB.WWW BWBBBBWB", 2,
            " held 0: 10 31 27 52 15 38");
    }

    /** The empty squares are counted, whether or not the game is over. */
    private static void limit() {
        String allBlack = Boards.CLEAR.replace('.', 'B');
        String mixed = Boards.TWO_EMPTY.replace('.', 'W');
        for (int empties = 0; empties <= 64; empties++) {
            limitOn(allBlack, empties);
            limitOn(mixed, empties);
            allBlack = empties < 64 ? Boards.with(allBlack, empties * 37 % 64, '.') : allBlack;
            mixed = empties < 64 ? Boards.with(mixed, empties * 37 % 64, '.') : mixed;
        }
        limitOn(Boards.START, 60);
    }

    private static void limitOn(String board, int empties) {
        for (int side = 1; side <= 2; side++) {
            ReversiSolver x = Boards.laid(board, side);
            String call = board + ", side " + side + ", " + empties + " empty, solve()";
            checks.due(call, x.solve(), empties <= 6 ? 0 : -4);
            checks.due(call + ", state", Boards.state(x),
                board + " side " + side + (empties <= 6 ? Reference.of(x).solution(side) : Boards.NOTHING_HELD));
        }
    }

    /** Empty squares count for nobody: 62 black discs and two empty squares are worth 62, not 64. */
    private static void overBoards() {
        solved(Boards.TWO_EMPTY.replace('W', 'B'), 1, " held 62:");
        solved(Boards.TWO_EMPTY.replace('W', 'B'), 2, " held -62:");
        solved(Boards.TWO_EMPTY.replace('.', 'W'), 1, " held 56:");
        solved(Boards.TWO_EMPTY.replace('.', 'W'), 2, " held -56:");
        solved(Boards.CLEAR.replace('.', 'W'), 1, " held -64:");
        solved(Boards.CLEAR.replace('.', 'W'), 2, " held 64:");
        solved("BBBBBBBB BBBBBBBB BBBBBBBB BBBBBBBB WWWWWWWW WWWWWWWW WWWWWWWW WWWWWWWW", 1, " held 0:");
        solved("BB.BBBBB BBBBB.BB BBBBB.BB BBBBBBBB BBBBBBBB BBBBBB.. BBBBBBBB BBB.BBBB", 2, " held -58:");
    }

    /** The lowest of the best, which is neither always the lowest move nor the last that was tried. */
    private static void lowestOfEqualMoves() {
        solved(Boards.TWO_EMPTY, 1, " held 64: 0 64 63");
        solved("BWBBBBBB BBBBBBBB B.BBWWBB B.WWWBB. ..BBBBBB BWWWB.BB WBBBBBBB BBWBBBBB", 1,
            " held 20: 32 17 33 25 64 31 64 45");
        solved(".BWWBWWB WWW.WWWB BBBBBWWW BWW.WBBB WBWWWBBW WWBWWBWW BBWWB.W. .BBBBWWW", 1,
            " held -2: 11 56 27 53 0 64 55");
    }

    private static void linesOfEveryLength() {
        solved("BBBBBBBB BBBB.WBB BBBBBB.B BBBBBBBB BBB.BBBB BBBBBBBB ..BBBBBB BBBBBB.B", 1, " held 59: 12");
        solved("BBBBBBBB BBBBBBBW BBBBBBB. B.BBBBBB BBBBBB.B BBBBBBBB BBB.BBB. BBBBBB.B", 2, " held -59: 64 23");
        solved("BBBBBB.B BBBBBBBB BBBBBBBB BBBBBBBB B.B.WBBB ..BBBBBB BBBBBBBW BBBBBBB.", 1, " held 60: 35 64 63");
        solved("BBBBBWBB BBBBBBBB BBBB.BBB .BBBBBBB BBBBBBBB B..B.BBB BBBBBBBB BBBBB.BB", 2,
            " held -57: 61 20 64 44");
        solved("WBWBBBBB BBBBBBBB BW.BB.B. B.BBB.BB BBBBWBBB BBBBBBB. BBBBBWBW BBBBBBBB", 1,
            " held 51: 47 18 25 29 21");
        solved("BWWBBB.B BBBWBBWB B.BBBBBB BBBWBB.B BBBBBBBB B.BB.BBB BWBWBB.B BBBBBBBB", 2,
            " held 4: 6 41 44 64 17 64 30 64 54");
        solved(".B.BBBBB BBBBBBBB BBBBBBBB BBBB.BWB BBB.BBBB BBBBBBBB BBB.B.BB BBBBBBBB", 1,
            " held 26: 64 28 35 2 64 53 64 0 64 51");
        solved("B.WWWW.B WWWWWWWW WBWWWWWW .WWWWWWW BW.WWWWW WWWWWWW. WBW.WWWW WWWWWWWB", 1,
            " held 34: 24 64 47 64 1 64 6 64 34 64 51");
        solved("BBBBBBBB BBBBBBBB BBBBB.BB .BBBBBBW BBBBBBBB BBBBB.BB BBB.BBBB BBBB.BB.", 1,
            " held 4: 64 63 64 21 64 60 64 24 64 45 64 51");
    }

    private static void againIsTheSame() {
        ReversiSolver x = Boards.solvedTwoEmpty();
        for (int round = 0; round < 3; round++) {
            checks.due("solve() again", x.solve(), 0);
            checks.due("solve() again, state", Boards.state(x), Boards.TWO_EMPTY + " side 1" + Boards.TWO_EMPTY_SOLUTION);
        }
    }

    /** A long line held before must not show through a shorter one, nor through an empty one. */
    private static void searchesLeaveNothingBehind() {
        ReversiSolver x = Boards.laid("BBBBBBBB BBBBBBBB BBBBB.BB .BBBBBBW BBBBBBBB BBBBB.BB BBB.BBBB BBBB.BB.", 1);
        x.solve();
        Boards.lay(x, Boards.TWO_EMPTY, 1);
        x.solve();
        checks.due("after a longer line, solution", Boards.solution(x), Boards.TWO_EMPTY_SOLUTION);
        checks.due("after a longer line, pvMove(3)", x.pvMove(3), -1);
        Boards.lay(x, Boards.TWO_EMPTY.replace('W', 'B'), 2);
        x.solve();
        checks.due("after a longer line, over, solution", Boards.solution(x), " held -62:");
        checks.due("after a longer line, over, pvMove(0)", x.pvMove(0), -1);
    }

    private static void randomBoards() {
        Numbers numbers = new Numbers(14);
        int[] blackOf100 = {50, 3, 97, 20, 80, 8, 92};
        for (int round = 0; round < 2100; round++) {
            int side = 1 + round % 2;
            String board = numbers.board(round % 6 == 0 ? 6 : numbers.below(6), blackOf100[round % 7]);
            solved(board, side, Reference.of(Boards.laid(board, side)).solution(side));
        }
    }
}
