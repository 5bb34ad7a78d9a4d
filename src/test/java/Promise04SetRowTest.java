/** Promise 4: setRow sets one whole row, or refuses and changes nothing. */
public final class Promise04SetRowTest {
    private static final Checks checks = new Checks();
    private static final int[] NO_ROWS = {-1, -2, -8, 8, 9, 15, 16, 64, 256, Integer.MIN_VALUE, Integer.MAX_VALUE};
    private static final int[] NO_BITS = {
        -1, -2, -128, -255, -256, 256, 257, 384, 511, 512, 65536, Integer.MIN_VALUE, Integer.MAX_VALUE
    };

    public static void main(String[] args) {
        for (int row = 0; row < 8; row++) {
            everyPairOfBits(row);
        }
        leavesTheRestAlone();
        dropsTheSolution();
        refusals();
        checks.finish();
    }

    /** The wanted row is told square by square, as the promise tells it. */
    private static void everyPairOfBits(int row) {
        ReversiSolver x = new ReversiSolver();
        for (int blackBits = 0; blackBits < 256; blackBits++) {
            for (int whiteBits = 0; whiteBits < 256; whiteBits++) {
                boolean apart = (blackBits & whiteBits) == 0;
                String call = "setRow(" + row + ", " + blackBits + ", " + whiteBits + ")";
                checks.due(call, x.setRow(row, blackBits, whiteBits), apart ? 0 : -1);
                for (int col = 0; apart && col < 8; col++) {
                    int want = (blackBits >> col & 1) == 1 ? 1 : (whiteBits >> col & 1) == 1 ? 2 : 0;
                    checks.due(call + ", col " + col, x.getSquare(8 * row + col), want);
                }
            }
        }
    }

    private static void leavesTheRestAlone() {
        Numbers numbers = new Numbers(4);
        for (int round = 0; round < 800; round++) {
            int row = round % 8;
            int side = 1 + round / 8 % 2;
            String before = numbers.board(numbers.below(65), 50);
            int blackBits = numbers.below(256);
            int whiteBits = numbers.below(256) & ~blackBits;
            String want = before;
            for (int col = 0; col < 8; col++) {
                char content = (blackBits >> col & 1) == 1 ? 'B' : (whiteBits >> col & 1) == 1 ? 'W' : '.';
                want = Boards.with(want, 8 * row + col, content);
            }
            ReversiSolver x = Boards.laid(before, side);
            String call = before + ", setRow(" + row + ", " + blackBits + ", " + whiteBits + ")";
            checks.due(call, x.setRow(row, blackBits, whiteBits), 0);
            checks.due(call + ", state", Boards.state(x), want + " side " + side + Boards.NOTHING_HELD);
        }
    }

    private static void dropsTheSolution() {
        ReversiSolver x = Boards.solvedTwoEmpty();
        checks.due("solved, setRow(0, 252, 2)", x.setRow(0, 252, 2), 0);
        checks.due("solved, setRow to the same, state", Boards.state(x),
            Boards.TWO_EMPTY + " side 1" + Boards.NOTHING_HELD);
        x.solve();
        checks.due("solved, setRow(4, 0, 255)", x.setRow(4, 0, 255), 0);
        checks.due("solved, setRow(4, 0, 255), solution", Boards.solution(x), Boards.NOTHING_HELD);
    }

    private static void refusals() {
        for (int row : NO_ROWS) {
            refused(row, 0, 0);
            refused(row, 255, 0);
            refused(row, 300, 300);
        }
        for (int row = 0; row < 8; row++) {
            for (int bits : NO_BITS) {
                refused(row, bits, 0);
                refused(row, 0, bits);
                refused(row, bits, bits);
                refused(row, 255, bits);
                refused(row, bits, 255);
            }
            for (int col = 0; col < 8; col++) {
                refused(row, 1 << col, 1 << col);
                refused(row, 255, 1 << col);
                refused(row, 1 << col, 255);
            }
            refused(row, 255, 255);
        }
    }

    private static void refused(int row, int blackBits, int whiteBits) {
        ReversiSolver x = Boards.solvedTwoEmpty();
        String before = Boards.state(x);
        String call = "setRow(" + row + ", " + blackBits + ", " + whiteBits + ")";
        checks.due(call, x.setRow(row, blackBits, whiteBits), -1);
        checks.due(call + ", state", Boards.state(x), before);
    }
}
