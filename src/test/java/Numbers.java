/** A fixed row of numbers that look random, the same on every machine. */
final class Numbers {
    private long seed;

    Numbers(long seed) {
        this.seed = seed;
    }

    /** A number in 0..bound-1. */
    int below(int bound) {
        seed = seed * 6364136223846793005L + 1442695040888963407L;
        return (int) ((seed >>> 33) % bound);
    }

    /** A board with the given number of empty squares, a disc being black in about blackOf100 of 100. */
    String board(int empties, int blackOf100) {
        char[] squares = new char[64];
        for (int sq = 0; sq < 64; sq++) {
            squares[sq] = below(100) < blackOf100 ? 'B' : 'W';
        }
        for (int left = empties; left > 0;) {
            int sq = below(64);
            if (squares[sq] != '.') {
                squares[sq] = '.';
                left--;
            }
        }
        StringBuilder text = new StringBuilder();
        for (int row = 0; row < 8; row++) {
            text.append(row > 0 ? " " : "").append(squares, 8 * row, 8);
        }
        return text.toString();
    }
}
