import java.util.ArrayList;
import java.util.List;

/** The document's terms written down word for word, slowly and with recursion, to compare with. */
final class Reference {
    final int[][] cells = new int[8][8];

    static Reference of(ReversiSolver x) {
        Reference r = new Reference();
        for (int sq = 0; sq < 64; sq++) {
            r.cells[sq / 8][sq % 8] = x.getSquare(sq);
        }
        return r;
    }

    /** From a text in the form of Boards.board. */
    static Reference of(String board) {
        Reference r = new Reference();
        for (int sq = 0; sq < 64; sq++) {
            r.cells[sq / 8][sq % 8] = ".BW".indexOf(Boards.contentOf(board, sq));
        }
        return r;
    }

    static int opponent(int side) {
        return 3 - side;
    }

    int count(int content) {
        int n = 0;
        for (int[] row : cells) {
            for (int cell : row) {
                n += cell == content ? 1 : 0;
            }
        }
        return n;
    }

    List<Integer> flips(int side, int sq) {
        List<Integer> flips = new ArrayList<>();
        int row = sq / 8;
        int col = sq % 8;
        if (cells[row][col] != 0) {
            return flips;
        }
        int[][] directions = {{-1, -1}, {-1, 0}, {-1, 1}, {0, -1}, {0, 1}, {1, -1}, {1, 0}, {1, 1}};
        for (int[] d : directions) {
            List<Integer> run = new ArrayList<>();
            int r = row + d[0];
            int c = col + d[1];
            while (inside(r, c) && cells[r][c] == opponent(side)) {
                run.add(8 * r + c);
                r += d[0];
                c += d[1];
            }
            if (inside(r, c) && cells[r][c] == side) {
                flips.addAll(run);
            }
        }
        return flips;
    }

    List<Integer> moves(int side) {
        List<Integer> moves = new ArrayList<>();
        for (int sq = 0; sq < 64; sq++) {
            if (!flips(side, sq).isEmpty()) {
                moves.add(sq);
            }
        }
        return moves;
    }

    long mask(int side) {
        long mask = 0;
        for (int sq : moves(side)) {
            mask |= 1L << sq;
        }
        return mask;
    }

    boolean over() {
        return moves(1).isEmpty() && moves(2).isEmpty();
    }

    Reference after(int side, int sq) {
        Reference next = new Reference();
        for (int row = 0; row < 8; row++) {
            next.cells[row] = cells[row].clone();
        }
        for (int flipped : flips(side, sq)) {
            next.cells[flipped / 8][flipped % 8] = side;
        }
        next.cells[sq / 8][sq % 8] = side;
        return next;
    }

    int value(int side) {
        List<Integer> moves = moves(side);
        if (moves.isEmpty()) {
            return over() ? count(side) - count(opponent(side)) : -value(opponent(side));
        }
        int best = Integer.MIN_VALUE;
        for (int sq : moves) {
            best = Math.max(best, -after(side, sq).value(opponent(side)));
        }
        return best;
    }

    List<Integer> line(int side) {
        List<Integer> line = new ArrayList<>();
        Reference q = this;
        int mover = side;
        while (!q.over()) {
            int move = 64;
            int value = q.value(mover);
            for (int sq : q.moves(mover)) {
                if (move == 64 && -q.after(mover, sq).value(opponent(mover)) == value) {
                    move = sq;
                }
            }
            line.add(move);
            q = move == 64 ? q : q.after(mover, move);
            mover = opponent(mover);
        }
        return line;
    }

    /** In the form of Boards.solution. */
    String solution(int side) {
        StringBuilder text = new StringBuilder(" held " + value(side) + ":");
        for (int entry : line(side)) {
            text.append(' ').append(entry);
        }
        return text.toString();
    }

    /** In the form of Boards.board. */
    String text() {
        StringBuilder text = new StringBuilder();
        for (int sq = 0; sq < 64; sq++) {
            text.append(sq > 0 && sq % 8 == 0 ? " " : "").append(".BW".charAt(cells[sq / 8][sq % 8]));
        }
        return text.toString();
    }

    private static boolean inside(int row, int col) {
        return row >= 0 && row < 8 && col >= 0 && col < 8;
    }
}
