import java.util.Arrays;

/** Terms, Lines and Legal move: walks that end at the edge, and the runs that a move flips. */
public final class TermsLinesTest {
    private static final Checks checks = new Checks();
    private static final int[][] DIRECTIONS = {{-1, -1}, {-1, 0}, {-1, 1}, {0, -1}, {0, 1}, {1, -1}, {1, 0}, {1, 1}};

    public static void main(String[] args) {
        checks.holds("The 8 directions are (drow,dcol) with drow and dcol in {-1,0,1}, not both 0.",
            TermsLinesTest::twoSquares);
        checks.holds("Walking in a direction stops at the board edge.", TermsLinesTest::upToTheEdge);
        checks.holds("It never wraps to another row or column.", TermsLinesTest::linesThatWouldWrap);
        checks.holds("the same, on boards drawn by hand", TermsLinesTest::drawnWraps);
        checks.holds("Square s is a legal move of m if and only if s is EMPTY", TermsLinesTest::occupied);
        checks.holds("one meets k >= 1 squares all holding o", TermsLinesTest::lengths);
        checks.holds("and directly after them a square (on the board) holding m", TermsLinesTest::notClosed);
        checks.holds("Those k squares are the run of s in d.", TermsLinesTest::everyFilling);
        checks.holds("s becomes m", TermsLinesTest::squareItself);
        checks.holds("every square of every run of s, in all directions that have a run, becomes m",
            TermsLinesTest::everyRun);
        checks.holds("no other square changes", TermsLinesTest::someRuns);
        checks.holds("The number flipped is the total size of all runs.", TermsLinesTest::numberFlipped);
        checks.finish();
    }

    private static boolean inside(int row, int col) {
        return row >= 0 && row < 8 && col >= 0 && col < 8;
    }

    /** How many squares there are from sq to the edge in a direction, sq itself not counted. */
    private static int room(int sq, int[] d) {
        int room = 0;
        while (inside(sq / 8 + (room + 1) * d[0], sq % 8 + (room + 1) * d[1])) {
            room++;
        }
        return room;
    }

    private static int step(int sq, int[] d, int steps) {
        return sq + steps * (8 * d[0] + d[1]);
    }

    private static void movesAre(String board, int side, int sq, boolean want) {
        ReversiSolver x = Boards.laid(board, side);
        String call = board + ", side " + side;
        checks.due(call + ", isLegal(" + sq + ")", x.isLegal(sq), want);
        checks.due(call + ", bit " + sq + " of legalMask()", (x.legalMask() >>> sq & 1) == 1, want);
        checks.due(call + ", play(" + sq + ") is taken", x.play(sq) > 0, want);
    }

    /** For Black on the board as it is, and for White on the same with the colours swapped. */
    private static void legalIs(boolean want, String board, int sq) {
        movesAre(board, 1, sq, want);
        movesAre(Boards.otherColours(board), 2, sq, want);
    }

    /** One empty square and one own disc, all else enemy: a move if and only if one line joins the two over a disc. */
    private static void twoSquares() {
        for (int from = 0; from < 64; from++) {
            for (int to = 0; to < 64; to++) {
                if (from != to) {
                    String board = Boards.with(Boards.with(Boards.ALL_WHITE, from, '.'), to, 'B');
                    String after = joined(board, from, to);
                    legalIs(!after.equals(board), board, from);
                    ReversiSolver x = Boards.laid(board, 1);
                    x.play(from);
                    checks.due(board + ", play(" + from + "), board", Boards.board(x), after);
                }
            }
        }
    }

    /** The board after the move, or as it was if the two squares do not lie on one line with room between. */
    private static String joined(String board, int from, int to) {
        int rows = to / 8 - from / 8;
        int cols = to % 8 - from % 8;
        int distance = Math.max(Math.abs(rows), Math.abs(cols));
        boolean straight = rows == 0 || cols == 0 || Math.abs(rows) == Math.abs(cols);
        String after = board;
        for (int n = 0; n < distance && straight && distance >= 2; n++) {
            after = Boards.with(after, from + n * (8 * rows + cols) / distance, 'B');
        }
        return after;
    }

    /** Enemy discs from beside the square to the edge, alone on the board and with own discs all round. */
    private static void upToTheEdge() {
        for (int sq = 0; sq < 64; sq++) {
            String none = Boards.with(Boards.ALL_WHITE, sq, '.');
            legalIs(false, none, sq);
            for (int[] d : DIRECTIONS) {
                String line = Boards.CLEAR;
                String among = Boards.with(Boards.ALL_BLACK, sq, '.');
                for (int steps = 1; steps <= room(sq, d); steps++) {
                    line = Boards.with(line, step(sq, d, steps), 'W');
                    among = Boards.with(among, step(sq, d, steps), 'W');
                }
                legalIs(false, line, sq);
                if (room(sq, d) > 0) {
                    legalIs(false, among, sq);
                }
            }
        }
    }

    /**
     * Lines of enemy discs closed by an own disc, laid by walks that run on over the edge in three careless ways:
     * by square number, by square number modulo 64, and round the board as on a ring.
     */
    private static void linesThatWouldWrap() {
        for (int sq = 0; sq < 64; sq++) {
            for (int[] d : DIRECTIONS) {
                for (int length = Math.max(1, room(sq, d)); length <= 6; length++) {
                    wrapped(sq, d, length, 0);
                    wrapped(sq, d, length, 1);
                    wrapped(sq, d, length, 2);
                }
            }
        }
    }

    private static void wrapped(int sq, int[] d, int length, int way) {
        String board = Boards.CLEAR;
        for (int steps = 1; steps <= length + 1; steps++) {
            int reached = step(sq, d, steps);
            int ring = 8 * Math.floorMod(sq / 8 + steps * d[0], 8) + Math.floorMod(sq % 8 + steps * d[1], 8);
            int at = way == 0 ? reached : way == 1 ? Math.floorMod(reached, 64) : ring;
            if (at < 0 || at > 63 || at == sq) {
                return;
            }
            board = Boards.with(board, at, steps <= length ? 'W' : 'B');
        }
        Reference r = Reference.of(Boards.laid(board, 1));
        legalIs(!r.flips(1, sq).isEmpty(), board, sq);
        ReversiSolver x = Boards.laid(board, 1);
        checks.due(board + ", legalMask()", x.legalMask(), r.mask(1));
        checks.due(board + ", isGameOver()", x.isGameOver(), r.over());
    }

    private static void noMoves(String board) {
        ReversiSolver x = Boards.laid(board, 1);
        checks.due(board + ", legalMask()", x.legalMask(), 0);
        for (int sq = 0; sq < 64; sq++) {
            checks.due(board + ", isLegal(" + sq + ")", x.isLegal(sq), false);
            checks.due(board + ", play(" + sq + ")", x.play(sq), -3);
        }
    }

    private static void drawnWraps() {
        noMoves("......W. B....... ........ ........ ........ ........ ........ ........");
        noMoves("......WW B....... ........ ........ ........ ........ ........ ........");
        noMoves(".......B WW...... ........ ........ ........ ........ ........ ........");
        noMoves("........ .......W ........ B....... ........ ........ ........ ........");
        noMoves("........ ......W. .......W ........ B....... ........ ........ ........");
        noMoves("........ .......B W....... ........ ........ ........ ........ ........");
        noMoves("........ ........ ........ ........ ........ ........ .......W B.......");
        noMoves("...W.... ........ ........ ........ ........ ........ ........ ...B....");
        noMoves("...B.... ........ ........ ........ ........ ........ ........ ...W....");
        noMoves("W....... ........ ........ ........ ........ ........ ........ .......B");
        noMoves(".......W B....... ........ ........ ........ ........ ........ ........");
    }

    /** A line that would be a run, from a square that is not empty. */
    private static void occupied() {
        for (int sq = 0; sq < 64; sq++) {
            for (int[] d : DIRECTIONS) {
                if (room(sq, d) >= 2) {
                    String board = line(sq, d, 1);
                    legalIs(true, board, sq);
                    legalIs(false, Boards.with(board, sq, 'B'), sq);
                    legalIs(false, Boards.with(board, sq, 'W'), sq);
                }
            }
        }
    }

    /** So many enemy discs from beside the square on, and an own disc after them. */
    private static String line(int sq, int[] d, int length) {
        String board = Boards.CLEAR;
        for (int steps = 1; steps <= length; steps++) {
            board = Boards.with(board, step(sq, d, steps), 'W');
        }
        return Boards.with(board, step(sq, d, length + 1), 'B');
    }

    /** None is too few; from one to the longest run that fits, six, every length will do. */
    private static void lengths() {
        for (int sq = 0; sq < 64; sq++) {
            for (int[] d : DIRECTIONS) {
                for (int length = 0; length + 1 <= room(sq, d); length++) {
                    legalIs(length >= 1, line(sq, d, length), sq);
                }
            }
        }
    }

    /** After the enemy discs an empty square, with an own disc behind it, or the edge. */
    private static void notClosed() {
        for (int sq = 0; sq < 64; sq++) {
            for (int[] d : DIRECTIONS) {
                for (int length = 2; length + 1 <= room(sq, d); length++) {
                    String board = line(sq, d, length);
                    for (int gap = 1; gap <= length; gap++) {
                        legalIs(false, Boards.with(board, step(sq, d, gap), '.'), sq);
                    }
                    legalIs(false, Boards.with(board, step(sq, d, length + 1), '.'), sq);
                }
                if (room(sq, d) >= 2) {
                    String board = line(sq, d, room(sq, d) - 1);
                    legalIs(false, Boards.with(board, step(sq, d, room(sq, d)), 'W'), sq);
                }
            }
        }
    }

    /**
     * Every way to fill the squares from sq to the edge, in every direction: the run in a direction hangs on
     * nothing else, so these are all the cases that there are of one run.
     */
    private static void everyFilling() {
        for (int sq = 0; sq < 64; sq++) {
            for (int[] d : DIRECTIONS) {
                int[] ray = new int[room(sq, d)];
                do {
                    fillingIs(sq, d, ray, 1);
                    fillingIs(sq, d, ray, 2);
                } while (nextFilling(ray));
            }
        }
    }

    /** Counts on, square by square: empty, then the mover's, then the other side's; false after the last filling. */
    private static boolean nextFilling(int[] ray) {
        for (int n = 0; n < ray.length; n++) {
            ray[n] = (ray[n] + 1) % 3;
            if (ray[n] != 0) {
                return true;
            }
        }
        return false;
    }

    private static int content(int inRay, int side) {
        return inRay == 0 ? 0 : inRay == 1 ? side : 3 - side;
    }

    private static void fillingIs(int sq, int[] d, int[] ray, int side) {
        ReversiSolver x = new ReversiSolver();
        x.reset(1);
        x.setSideToMove(side);
        int met = 0;
        for (int n = 0; n < ray.length; n++) {
            x.setSquare(step(sq, d, n + 1), content(ray[n], side));
            met += n == met && ray[n] == 2 ? 1 : 0;
        }
        int run = met < ray.length && ray[met] == 1 ? met : 0;
        String call = "for " + side + " from " + sq + " by " + d[0] + "," + d[1] + " " + Arrays.toString(ray);
        checks.due(call + ", isLegal", x.isLegal(sq), run > 0);
        checks.due(call + ", play", x.play(sq), run > 0 ? run : -3);
        checks.due(call + ", getSquare", x.getSquare(sq), run > 0 ? side : 0);
        for (int n = 0; n < ray.length; n++) {
            checks.due(call + ", then " + n, x.getSquare(step(sq, d, n + 1)), n < run ? side : content(ray[n], side));
        }
    }

    private static void squareItself() {
        for (int sq = 0; sq < 64; sq++) {
            for (int[] d : DIRECTIONS) {
                if (room(sq, d) >= 2) {
                    for (int side = 1; side <= 2; side++) {
                        String board = line(sq, d, 1);
                        ReversiSolver x = Boards.laid(side == 1 ? board : Boards.otherColours(board), side);
                        x.play(sq);
                        checks.due(board + ", for " + side + ", play(" + sq + "), getSquare", x.getSquare(sq), side);
                    }
                }
            }
        }
    }

    /** From the square, the longest run that fits in each direction of which the bit is set in chosen. */
    private static String star(int sq, int chosen, char run, String rest) {
        String board = rest;
        for (int n = 0; n < DIRECTIONS.length; n++) {
            int room = room(sq, DIRECTIONS[n]);
            for (int steps = 1; steps < room && (chosen >> n & 1) == 1; steps++) {
                board = Boards.with(board, step(sq, DIRECTIONS[n], steps), run);
            }
            if (room >= 2) {
                board = Boards.with(board, step(sq, DIRECTIONS[n], room), 'B');
            }
        }
        return board;
    }

    private static void played(String before, int sq, String after) {
        for (int side = 1; side <= 2; side++) {
            ReversiSolver x = Boards.laid(side == 1 ? before : Boards.otherColours(before), side);
            x.play(sq);
            checks.due(before + ", for " + side + ", play(" + sq + "), board", Boards.board(x),
                side == 1 ? after : Boards.otherColours(after));
        }
    }

    private static void everyRun() {
        for (int sq = 0; sq < 64; sq++) {
            played(star(sq, 255, 'W', Boards.CLEAR), sq, Boards.with(star(sq, 255, 'B', Boards.CLEAR), sq, 'B'));
        }
    }

    /** Some directions have a run, and all else on the board is empty or enemy; only the runs change. */
    private static void someRuns() {
        for (int sq = 0; sq < 64; sq++) {
            for (int chosen = 0; chosen < 256; chosen += 5) {
                String before = star(sq, chosen, 'W', Boards.CLEAR);
                boolean move = !before.equals(star(sq, chosen, 'B', Boards.CLEAR));
                String after = Boards.with(star(sq, chosen, 'B', Boards.CLEAR), sq, 'B');
                played(before, sq, move ? after : before);
            }
            String filled = Boards.with(star(sq, 255, 'W', Boards.ALL_WHITE), sq, '.');
            played(filled, sq, Boards.with(star(sq, 255, 'B', Boards.ALL_WHITE), sq, 'B'));
        }
    }

    private static void numberFlipped() {
        for (int sq = 0; sq < 64; sq++) {
            for (int chosen = 1; chosen < 256; chosen += 3) {
                int total = 0;
                for (int n = 0; n < DIRECTIONS.length; n++) {
                    total += (chosen >> n & 1) == 1 ? Math.max(0, room(sq, DIRECTIONS[n]) - 1) : 0;
                }
                ReversiSolver x = Boards.laid(star(sq, chosen, 'W', Boards.CLEAR), 1);
                String call = Boards.board(x) + ", play(" + sq + ")";
                checks.due(call, x.play(sq), total > 0 ? total : -3);
            }
        }
    }
}
