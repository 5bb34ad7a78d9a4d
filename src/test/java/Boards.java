import java.util.List;

/** Lays out boards written as text, and reads a whole state back as text. */
final class Boards {
    static final int BLACK = 1;
    static final int WHITE = 2;

    static final String START = "........ ........ ........ ...WB... ...BW... ........ ........ ........";
    static final String CLEAR = "........ ........ ........ ........ ........ ........ ........ ........";
    static final String ALL_BLACK = CLEAR.replace('.', 'B');
    static final String ALL_WHITE = CLEAR.replace('.', 'W');
    static final String HALVES = "BBBBBBBB BBBBBBBB BBBBBBBB BBBBBBBB WWWWWWWW WWWWWWWW WWWWWWWW WWWWWWWW";

    /** Two empty squares; with Black to move the value is 64 and the line is 0, PASS, 63. White must pass. */
    static final String TWO_EMPTY = ".WBBBBBB BBBBBBBB BBBBBBBB BBBBBBBB BBBBBBBB BBBBBBBB BBBBBBBB BBBBBBW.";
    static final String TWO_EMPTY_SOLUTION = " held 64: 0 64 63";

    /** Two empty squares and nobody can move: 62 black discs. */
    static final String OVER = TWO_EMPTY.replace('W', 'B');
    static final String FULL = TWO_EMPTY.replace('.', 'W');

    /** Six empty squares and the longest line there is, with Black to move: every other entry is a pass. */
    static final String TWELVE_ENTRIES = "BBBBBBBB BBBBBBBB BBBBB.BB .BBBBBBW BBBBBBBB BBBBB.BB BBB.BBBB BBBB.BB.";
    static final String TWELVE_ENTRIES_SOLUTION = " held 4: 64 63 64 21 64 60 64 24 64 45 64 51";

    /** Six empty squares, and both sides can move. */
    static final String SIX_EMPTY = "WWBBWBBB WB.BWWW. WWBBWWBB BBW.WWW. BWBWWW.W BWBWBBWB WWWB.WWW BWBBBBWB";

    static final String NOTHING_HELD = " none held";

    private Boards() {
    }

    static ReversiSolver laid(String board, int side) {
        ReversiSolver x = new ReversiSolver();
        lay(x, board, side);
        return x;
    }

    static ReversiSolver solved(String board, int side) {
        ReversiSolver x = laid(board, side);
        x.solve();
        return x;
    }

    static ReversiSolver solvedTwoEmpty() {
        return solved(TWO_EMPTY, BLACK);
    }

    static List<ReversiSolver> holding() {
        return Known.holding().stream().map(known -> known.x).toList();
    }

    static List<ReversiSolver> holdingNone() {
        return Known.holdingNone().stream().map(known -> known.x).toList();
    }

    static List<ReversiSolver> everyState() {
        return Known.all().stream().map(known -> known.x).toList();
    }

    static void lay(ReversiSolver x, String board, int side) {
        String squares = board.replace(" ", "");
        for (int sq = 0; sq < 64; sq++) {
            x.setSquare(sq, ".BW".indexOf(squares.charAt(sq)));
        }
        x.setSideToMove(side);
    }

    static String board(ReversiSolver x) {
        StringBuilder text = new StringBuilder();
        for (int sq = 0; sq < 64; sq++) {
            text.append(sq > 0 && sq % 8 == 0 ? " " : "");
            int content = x.getSquare(sq);
            text.append(content >= 0 && content <= 2 ? ".BW".charAt(content) : '?');
        }
        return text.toString();
    }

    static String solution(ReversiSolver x) {
        if (x.solvedValue() == -100 && x.pvLength() == -1 && x.pvMove(0) == -1) {
            return NOTHING_HELD;
        }
        StringBuilder text = new StringBuilder(" held " + x.solvedValue() + ":");
        for (int i = 0; i < x.pvLength(); i++) {
            text.append(' ').append(x.pvMove(i));
        }
        return text.toString();
    }

    static String state(ReversiSolver x) {
        return board(x) + " side " + x.sideToMove() + solution(x);
    }

    /** The board with one square changed. */
    static String with(String board, int sq, char content) {
        StringBuilder text = new StringBuilder(board);
        text.setCharAt(sq + sq / 8, content);
        return text.toString();
    }

    static char contentOf(String board, int sq) {
        return board.charAt(sq + sq / 8);
    }

    static String otherColours(String board) {
        return board.replace('W', 'x').replace('B', 'W').replace('x', 'B');
    }
}
