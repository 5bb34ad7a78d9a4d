/**
 * Reversi by the full rules, with an exact solver for endgames of at most
 * SOLVE_LIMIT empty squares.
 *
 * A set of squares is a long whose bit sq stands for square sq = 8 * row + col.
 * Inside, a position is a pair of such sets, the mover's discs (own) and the
 * other side's discs (opp), so that one piece of code serves both colours.
 */
public final class ReversiSolver {
    public static final int EMPTY = 0;
    public static final int BLACK = 1;
    public static final int WHITE = 2;
    public static final int PASS = 64;
    public static final int SOLVE_LIMIT = 6;
    public static final int OK = 0;
    public static final int ERR_RANGE = -1;
    public static final int ERR_OVER = -2;
    public static final int ERR_ILLEGAL = -3;
    public static final int ERR_TOO_MANY = -4;
    public static final int NO_SOLUTION = -100;

    private static final int SIZE = 8;
    private static final int SQUARES = 64;
    private static final int ROW_BITS = 255;
    private static final long START_BLACK = 1L << 28 | 1L << 35;
    private static final long START_WHITE = 1L << 27 | 1L << 36;

    /** What the getters answer where there is nothing to tell. */
    private static final int NONE = -1;

    /** Lower than every value, so that the first move tried always counts as better. */
    private static final int BELOW_ALL_VALUES = -65;

    /** Each empty square gives at most one move, with at most one pass before it. */
    private static final int PV_CAPACITY = 2 * SOLVE_LIMIT;

    /** The position searched, one more for each entry of a line, and a spare that is never opened. */
    private static final int FRAMES = PV_CAPACITY + 2;

    /** A search of six empty squares opens fewer than 4,000 frames and takes two steps for each. */
    private static final int SEARCH_STEPS = 1000000;

    private long black;
    private long white;
    private int side;

    private boolean held;
    private int heldValue;
    private int heldLength;
    private final int[] heldLine = new int[PV_CAPACITY];

    /* The search's stack: frame d is the position after d entries of the line being tried. */
    private final long[] frameOwn = new long[FRAMES];
    private final long[] frameOpp = new long[FRAMES];
    private final long[] frameUntried = new long[FRAMES];
    private final boolean[] framePassDue = new boolean[FRAMES];
    private final int[] frameTrying = new int[FRAMES];
    private final int[] frameBestMove = new int[FRAMES];
    private final int[] frameBest = new int[FRAMES];

    public ReversiSolver() {
        startWith(START_BLACK, START_WHITE);
    }

    public void reset(int kind) {
        if (kind == 0) {
            startWith(START_BLACK, START_WHITE);
        } else {
            startWith(0L, 0L);
        }
    }

    public int setSquare(int sq, int who) {
        if (!isOnBoard(sq)) {
            return ERR_RANGE;
        }
        if (who != EMPTY && who != BLACK && who != WHITE) {
            return ERR_RANGE;
        }
        long bit = 1L << sq;
        black = who == BLACK ? black | bit : black & ~bit;
        white = who == WHITE ? white | bit : white & ~bit;
        held = false;
        return OK;
    }

    public int setRow(int row, int blackBits, int whiteBits) {
        if (row < 0 || row >= SIZE) {
            return ERR_RANGE;
        }
        if (blackBits < 0 || blackBits > ROW_BITS || whiteBits < 0 || whiteBits > ROW_BITS) {
            return ERR_RANGE;
        }
        if ((blackBits & whiteBits) != 0) {
            return ERR_RANGE;
        }
        int shift = SIZE * row;
        long others = ~((long) ROW_BITS << shift);
        black = black & others | (long) blackBits << shift;
        white = white & others | (long) whiteBits << shift;
        held = false;
        return OK;
    }

    public int setSideToMove(int who) {
        if (who != BLACK && who != WHITE) {
            return ERR_RANGE;
        }
        side = who;
        held = false;
        return OK;
    }

    public int getSquare(int sq) {
        if (!isOnBoard(sq)) {
            return NONE;
        }
        if (hasSquare(black, sq)) {
            return BLACK;
        }
        return hasSquare(white, sq) ? WHITE : EMPTY;
    }

    public int sideToMove() {
        return side;
    }

    public int countDiscs(int who) {
        if (who == BLACK) {
            return sizeOf(black);
        }
        return who == WHITE ? sizeOf(white) : NONE;
    }

    public boolean isGameOver() {
        return movesOf(black, white) == 0 && movesOf(white, black) == 0;
    }

    public boolean isLegal(int sq) {
        if (!isOnBoard(sq)) {
            return false;
        }
        long own = moverDiscs();
        long opp = otherDiscs();
        return flipsOf(own, opp, sq) != 0;
    }

    public long legalMask() {
        long own = moverDiscs();
        long opp = otherDiscs();
        return movesOf(own, opp);
    }

    public int play(int sq) {
        if (!isOnBoard(sq)) {
            return ERR_RANGE;
        }
        long own = moverDiscs();
        long opp = otherDiscs();
        long flips = flipsOf(own, opp, sq);
        if (flips == 0) {
            return ERR_ILLEGAL;
        }
        long gained = flips | 1L << sq;
        black = side == BLACK ? black | gained : black & ~gained;
        white = side == WHITE ? white | gained : white & ~gained;
        endTurn();
        return sizeOf(flips);
    }

    public int pass() {
        if (isGameOver()) {
            return ERR_OVER;
        }
        if (legalMask() != 0) {
            return ERR_ILLEGAL;
        }
        endTurn();
        return OK;
    }

    public int solve() {
        long own = moverDiscs();
        long opp = otherDiscs();
        if (sizeOf(~(own | opp)) > SOLVE_LIMIT) {
            return ERR_TOO_MANY;
        }
        search(own, opp);
        heldValue = frameBest[0];
        heldLength = 0;
        for (int entry = 0; entry < PV_CAPACITY && frameBestMove[0] != NONE; entry++) {
            int move = frameBestMove[0];
            heldLine[entry] = move;
            heldLength = entry + 1;
            long gained = gainOf(own, opp, move);
            long nextOwn = opp & ~gained;
            opp = own | gained;
            own = nextOwn;
            search(own, opp);
        }
        held = true;
        return OK;
    }

    public int solvedValue() {
        return held ? heldValue : NO_SOLUTION;
    }

    public int pvLength() {
        return held ? heldLength : NONE;
    }

    public int pvMove(int i) {
        if (!held || i < 0 || i >= heldLength) {
            return NONE;
        }
        return heldLine[i];
    }

    private void startWith(long blackDiscs, long whiteDiscs) {
        black = blackDiscs;
        white = whiteDiscs;
        side = BLACK;
        held = false;
    }

    private void endTurn() {
        side = side == BLACK ? WHITE : BLACK;
        held = false;
    }

    private long moverDiscs() {
        return side == BLACK ? black : white;
    }

    private long otherDiscs() {
        return side == BLACK ? white : black;
    }

    private static boolean isOnBoard(int sq) {
        return sq >= 0 && sq < SQUARES;
    }

    private static boolean hasSquare(long set, int sq) {
        return (set >>> sq & 1L) != 0;
    }

    private static int sizeOf(long set) {
        int size = 0;
        for (int sq = 0; sq < SQUARES; sq++) {
            if (hasSquare(set, sq)) {
                size++;
            }
        }
        return size;
    }

    /** Answers NONE for the empty set. */
    private static int lowestOf(long set) {
        for (int sq = 0; sq < SQUARES; sq++) {
            if (hasSquare(set, sq)) {
                return sq;
            }
        }
        return NONE;
    }

    private static long movesOf(long own, long opp) {
        long moves = 0L;
        for (int sq = 0; sq < SQUARES; sq++) {
            if (flipsOf(own, opp, sq) != 0) {
                moves |= 1L << sq;
            }
        }
        return moves;
    }

    /** A legal move flips at least one disc, so an empty answer says that sq is no move. */
    private static long flipsOf(long own, long opp, int sq) {
        if (hasSquare(own | opp, sq)) {
            return 0L;
        }
        long flips = 0L;
        for (int drow = -1; drow <= 1; drow++) {
            for (int dcol = -1; dcol <= 1; dcol++) {
                if (drow != 0 || dcol != 0) {
                    flips |= runOf(own, opp, sq, drow, dcol);
                }
            }
        }
        return flips;
    }

    /** Walks by row and column, not by square number, so that it stops at the edge and never wraps. */
    private static long runOf(long own, long opp, int sq, int drow, int dcol) {
        long run = 0L;
        for (int step = 1; step < SIZE; step++) {
            int row = sq / SIZE + step * drow;
            int col = sq % SIZE + step * dcol;
            if (row < 0 || row >= SIZE || col < 0 || col >= SIZE) {
                return 0L;
            }
            long bit = 1L << (SIZE * row + col);
            if ((own & bit) != 0) {
                return run;
            }
            if ((opp & bit) == 0) {
                return 0L;
            }
            run |= bit;
        }
        return 0L;
    }

    /** The squares that a move makes the mover's: none for PASS, so that a pass only swaps the sides. */
    private static long gainOf(long own, long opp, int move) {
        return move == PASS ? 0L : flipsOf(own, opp, move) | 1L << move;
    }

    /**
     * Leaves in frame 0 the value of the position and the first entry of its
     * principal variation, NONE if the board is over. It tries every move and
     * cuts none off, since the canonical line needs exact values to see ties.
     */
    private void search(long own, long opp) {
        openFrame(0, own, opp);
        int depth = 0;
        for (int step = 0; step < SEARCH_STEPS && depth >= 0 && depth + 1 < FRAMES; step++) {
            int move = takeMove(depth);
            if (move == NONE) {
                if (depth > 0) {
                    reportToParent(depth);
                }
                depth--;
            } else {
                long gained = gainOf(frameOwn[depth], frameOpp[depth], move);
                openFrame(depth + 1, frameOpp[depth] & ~gained, frameOwn[depth] | gained);
                depth++;
            }
        }
    }

    private void openFrame(int depth, long own, long opp) {
        long moves = movesOf(own, opp);
        boolean stuck = moves == 0;
        boolean over = stuck && movesOf(opp, own) == 0;
        frameOwn[depth] = own;
        frameOpp[depth] = opp;
        frameUntried[depth] = moves;
        framePassDue[depth] = stuck && !over;
        frameBestMove[depth] = NONE;
        frameBest[depth] = over ? sizeOf(own) - sizeOf(opp) : BELOW_ALL_VALUES;
    }

    /** Moves come in rising order, so that of equal moves the lowest is the first to be best. */
    private int takeMove(int depth) {
        int move = PASS;
        if (framePassDue[depth]) {
            framePassDue[depth] = false;
        } else {
            long untried = frameUntried[depth];
            move = lowestOf(untried);
            frameUntried[depth] = untried & (untried - 1);
        }
        frameTrying[depth] = move;
        return move;
    }

    private void reportToParent(int depth) {
        int parent = depth - 1;
        int value = -frameBest[depth];
        if (value > frameBest[parent]) {
            frameBest[parent] = value;
            frameBestMove[parent] = frameTrying[parent];
        }
    }
}
