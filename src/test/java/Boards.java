/** Lays out boards written as text, and reads a whole state back as text. */
final class Boards {
    static final int BLACK = 1;
    static final int WHITE = 2;

    /** Numbers outside 0..63, with those that a careless mask or cast would bring back inside. */
    static final int[] NO_SQUARES = {
        -1, -2, -8, -63, -64, -65, -256, 64, 65, 71, 72, 91, 100, 127, 128, 255, 256, 283, 65536, 65563,
        1 << 30, Integer.MIN_VALUE, Integer.MIN_VALUE + 27, Integer.MAX_VALUE, Integer.MAX_VALUE - 1
    };

    /** Numbers that are neither BLACK nor WHITE nor EMPTY. */
    static final int[] NO_CONTENTS = {
        -1, -2, -3, 3, 4, 5, 64, 255, 256, 257, 258, 65537, Integer.MIN_VALUE, Integer.MIN_VALUE + 1, Integer.MAX_VALUE
    };

    static final String START = "........ ........ ........ ...WB... ...BW... ........ ........ ........";
    static final String CLEAR = "........ ........ ........ ........ ........ ........ ........ ........";

    /** Two empty squares; with Black to move the value is 64 and the line is 0, PASS, 63. */
    static final String TWO_EMPTY = ".WBBBBBB BBBBBBBB BBBBBBBB BBBBBBBB BBBBBBBB BBBBBBBB BBBBBBBB BBBBBBW.";
    static final String TWO_EMPTY_SOLUTION = " held 64: 0 64 63";

    static final String NOTHING_HELD = " none held";

    private Boards() {
    }

    static ReversiSolver laid(String board, int side) {
        ReversiSolver x = new ReversiSolver();
        lay(x, board, side);
        return x;
    }

    static ReversiSolver solvedTwoEmpty() {
        ReversiSolver x = laid(TWO_EMPTY, BLACK);
        x.solve();
        return x;
    }

    static void lay(ReversiSolver x, String board, int side) {
        String squares = board.replace(" ", "");
        for (int sq = 0; sq < 64; sq++) {
            x.setSquare(sq, ".BW".indexOf(squares.charAt(sq)));
        }
        x.setSideToMove(side);
    }

    static String board(ReversiSolver x) {
        StringBuilder text = new StringBuilder();
        for (int sq = 0; sq < 64; sq++) {
            text.append(sq > 0 && sq % 8 == 0 ? " " : "");
            int content = x.getSquare(sq);
            text.append(content >= 0 && content <= 2 ? ".BW".charAt(content) : '?');
        }
        return text.toString();
    }

    static String solution(ReversiSolver x) {
        if (x.solvedValue() == -100 && x.pvLength() == -1 && x.pvMove(0) == -1) {
            return NOTHING_HELD;
        }
        StringBuilder text = new StringBuilder(" held " + x.solvedValue() + ":");
        for (int i = 0; i < x.pvLength(); i++) {
            text.append(' ').append(x.pvMove(i));
        }
        return text.toString();
    }

    static String state(ReversiSolver x) {
        return board(x) + " side " + x.sideToMove() + solution(x);
    }

    /** The board with one square changed. */
    static String with(String board, int sq, char content) {
        StringBuilder text = new StringBuilder(board);
        text.setCharAt(sq + sq / 8, content);
        return text.toString();
    }
}
