import java.util.List;

/** Promise 4: setRow sets one whole row, or refuses and changes nothing. */
public final class Promise04SetRowTest {
    private static final Checks checks = new Checks();

    public static void main(String[] args) {
        checks.holds("If row is outside 0..7, it answers ERR_RANGE.", Promise04SetRowTest::rowOutside);
        checks.holds("If blackBits or whiteBits is outside 0..255 (negative values included), it answers ERR_RANGE.",
            Promise04SetRowTest::bitsOutside);
        checks.holds("If (blackBits & whiteBits) != 0, it answers ERR_RANGE.", Promise04SetRowTest::bitsOverlap);
        checks.holds("It tests in this order", Promise04SetRowTest::severalWrong);
        checks.holds("A refused call changes nothing.", Promise04SetRowTest::refusedChangesNothing);
        checks.holds("Otherwise, for each col in 0..7, square 8*row+col becomes", Promise04SetRowTest::everyPairOfBits);
        checks.holds("BLACK if bit col of blackBits is 1", () -> oneBit(1));
        checks.holds("else WHITE if bit col of whiteBits is 1", () -> oneBit(2));
        checks.holds("else EMPTY", Promise04SetRowTest::noBits);
        checks.holds("Squares of other rows are unchanged", Promise04SetRowTest::otherRows);
        checks.holds("and the side to move is unchanged", Promise04SetRowTest::sideUnchanged);
        checks.holds("The held solution becomes absent.", Promise04SetRowTest::dropsTheSolution);
        checks.holds("The answer is OK.", Promise04SetRowTest::answersOk);
        checks.finish();
    }

    private static void rowOutside() {
        ReversiSolver x = new ReversiSolver();
        for (int row : Edges.outside(0, 7)) {
            checks.due("setRow(" + row + ", 0, 0)", x.setRow(row, 0, 0), -1);
            checks.due("setRow(" + row + ", 255, 0)", x.setRow(row, 255, 0), -1);
            checks.due("setRow(" + row + ", 0, 255)", x.setRow(row, 0, 255), -1);
        }
    }

    private static void bitsOutside() {
        ReversiSolver x = new ReversiSolver();
        for (int row = 0; row < 8; row++) {
            for (int bits : Edges.outside(0, 255)) {
                checks.due("setRow(" + row + ", " + bits + ", 0)", x.setRow(row, bits, 0), -1);
                checks.due("setRow(" + row + ", 0, " + bits + ")", x.setRow(row, 0, bits), -1);
            }
        }
    }

    private static void bitsOverlap() {
        ReversiSolver x = new ReversiSolver();
        for (int row = 0; row < 8; row++) {
            for (int blackBits = 0; blackBits < 256; blackBits++) {
                for (int whiteBits = 0; whiteBits < 256; whiteBits++) {
                    int want = (blackBits & whiteBits) != 0 ? -1 : 0;
                    String call = "setRow(" + row + ", " + blackBits + ", " + whiteBits + ")";
                    checks.due(call, x.setRow(row, blackBits, whiteBits), want);
                }
            }
        }
    }

    /** All three tests answer the same code, so all that shows is that a second wrong argument makes no difference. */
    private static void severalWrong() {
        ReversiSolver x = new ReversiSolver();
        for (int row : new int[] {-1, 0, 7, 8, Integer.MIN_VALUE, Integer.MAX_VALUE}) {
            for (int bits : new int[] {-1, -256, 256, 257, Integer.MIN_VALUE, Integer.MAX_VALUE}) {
                checks.due("setRow(" + row + ", " + bits + ", " + bits + ")", x.setRow(row, bits, bits), -1);
                checks.due("setRow(" + row + ", " + bits + ", 1)", x.setRow(row, bits, 1), -1);
                checks.due("setRow(" + row + ", 1, " + bits + ")", x.setRow(row, 1, bits), -1);
            }
            checks.due("setRow(" + row + ", 1, 1)", x.setRow(row, 1, 1), -1);
            checks.due("setRow(" + row + ", 255, 128)", x.setRow(row, 255, 128), -1);
        }
    }

    private static void refusedChangesNothing() {
        List<Known> all = Known.all();
        for (int row : Edges.outside(0, 7)) {
            refused(all, row, 90, 37);
        }
        int[] wrongBits = {-1, -2, -128, -255, -256, 256, 257, 384, 511, 512, 65536, Integer.MIN_VALUE, Integer.MAX_VALUE};
        for (int row = 0; row < 8; row++) {
            for (int bits : wrongBits) {
                refused(all, row, bits, 0);
                refused(all, row, 0, bits);
                refused(all, row, 90, bits);
                refused(all, row, bits, 90);
            }
            for (int col = 0; col < 8; col++) {
                refused(all, row, 1 << col, 1 << col);
                refused(all, row, 255, 1 << col);
                refused(all, row, 1 << col, 255);
            }
        }
    }

    private static void refused(List<Known> all, int row, int blackBits, int whiteBits) {
        String call = "setRow(" + row + ", " + blackBits + ", " + whiteBits + ")";
        Known.unchangedBy(checks, all, call, x -> x.setRow(row, blackBits, whiteBits), -1);
    }

    /** The wanted row is told square by square, as the promise tells it. */
    private static void everyPairOfBits() {
        ReversiSolver x = new ReversiSolver();
        for (int row = 0; row < 8; row++) {
            for (int blackBits = 0; blackBits < 256; blackBits++) {
                // Every number whose bits lie outside blackBits, from the greatest to none.
                int free = ~blackBits & 255;
                for (int whiteBits = free; whiteBits >= 0; whiteBits = whiteBits == 0 ? -1 : whiteBits - 1 & free) {
                    rowBecomes(x, row, blackBits, whiteBits);
                }
            }
        }
    }

    private static void rowBecomes(ReversiSolver x, int row, int blackBits, int whiteBits) {
        String call = "setRow(" + row + ", " + blackBits + ", " + whiteBits + ")";
        checks.due(call, x.setRow(row, blackBits, whiteBits), 0);
        for (int col = 0; col < 8; col++) {
            int want = (blackBits >> col & 1) == 1 ? 1 : (whiteBits >> col & 1) == 1 ? 2 : 0;
            checks.due(call + ", col " + col, x.getSquare(8 * row + col), want);
        }
    }

    private static void oneBit(int who) {
        for (int sq = 0; sq < 64; sq++) {
            int bit = 1 << sq % 8;
            ReversiSolver x = Boards.laid(Boards.CLEAR, 1);
            checks.due("one bit for " + sq, x.setRow(sq / 8, who == 1 ? bit : 0, who == 2 ? bit : 0), 0);
            checks.due("one bit for " + sq + ", board", Boards.board(x),
                Boards.with(Boards.CLEAR, sq, ".BW".charAt(who)));
        }
    }

    private static void noBits() {
        for (int row = 0; row < 8; row++) {
            for (String full : new String[] {Boards.ALL_BLACK, Boards.ALL_WHITE}) {
                ReversiSolver x = Boards.laid(full, 1);
                checks.due("setRow(" + row + ", 0, 0)", x.setRow(row, 0, 0), 0);
                for (int col = 0; col < 8; col++) {
                    checks.due("setRow(" + row + ", 0, 0), col " + col, x.getSquare(8 * row + col), 0);
                }
            }
        }
    }

    private static void otherRows() {
        Numbers numbers = new Numbers(4);
        for (int round = 0; round < 1600; round++) {
            int row = round % 8;
            String before = numbers.board(round % 3 == 0 ? 0 : numbers.below(65), new int[] {50, 0, 100}[round % 3]);
            int blackBits = round % 5 == 0 ? 255 : numbers.below(256);
            int whiteBits = round % 7 == 0 ? 255 & ~blackBits : numbers.below(256) & ~blackBits;
            ReversiSolver x = Boards.laid(before, 1);
            x.setRow(row, blackBits, whiteBits);
            String call = before + ", setRow(" + row + ", " + blackBits + ", " + whiteBits + ")";
            String after = Boards.board(x);
            checks.due(call + ", rows above", after.substring(0, 9 * row), before.substring(0, 9 * row));
            checks.due(call + ", rows below", after.substring(9 * row + 8), before.substring(9 * row + 8));
        }
    }

    private static void sideUnchanged() {
        for (int side = 1; side <= 2; side++) {
            ReversiSolver x = Boards.laid(Boards.START, side);
            for (int row = 0; row < 8; row++) {
                x.setRow(row, 0, 0);
                checks.due("side " + side + ", setRow(" + row + ", 0, 0), side", x.sideToMove(), side);
                x.setRow(row, 255, 0);
                checks.due("side " + side + ", setRow(" + row + ", 255, 0), side", x.sideToMove(), side);
                x.setRow(row, 0, 255);
                checks.due("side " + side + ", setRow(" + row + ", 0, 255), side", x.sideToMove(), side);
            }
        }
    }

    /** Even when the row stays as it was. */
    private static void dropsTheSolution() {
        for (ReversiSolver x : Boards.holding()) {
            for (int row = 0; row < 8; row++) {
                int blackBits = bitsOf(x, row, 1);
                int whiteBits = bitsOf(x, row, 2);
                x.solve();
                String call = Boards.state(x) + ", setRow(" + row + ", " + blackBits + ", " + whiteBits + ")";
                checks.due(call, x.setRow(row, blackBits, whiteBits), 0);
                checks.due(call + ", solution", Boards.solution(x), Boards.NOTHING_HELD);
            }
        }
        ReversiSolver x = Boards.solvedTwoEmpty();
        x.setRow(4, 0, 255);
        checks.due("solved, setRow(4, 0, 255), solution", Boards.solution(x), Boards.NOTHING_HELD);
    }

    /** On every state, for the first and the last row and the least and the greatest bits. */
    private static void answersOk() {
        for (ReversiSolver x : Boards.everyState()) {
            for (int row : new int[] {0, 7}) {
                checks.due("setRow(" + row + ", 0, 0)", x.setRow(row, 0, 0), 0);
                checks.due("setRow(" + row + ", 255, 0)", x.setRow(row, 255, 0), 0);
                checks.due("setRow(" + row + ", 0, 255)", x.setRow(row, 0, 255), 0);
                checks.due("setRow(" + row + ", 127, 128)", x.setRow(row, 127, 128), 0);
            }
        }
    }

    private static int bitsOf(ReversiSolver x, int row, int who) {
        int bits = 0;
        for (int col = 0; col < 8; col++) {
            bits |= x.getSquare(8 * row + col) == who ? 1 << col : 0;
        }
        return bits;
    }
}
