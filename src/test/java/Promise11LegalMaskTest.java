/** Promise 11: legalMask has bit sq set exactly when isLegal(sq) is true. */
public final class Promise11LegalMaskTest {
    private static final Checks checks = new Checks();

    public static void main(String[] args) {
        checks.holds("legalMask() answers a long whose bit sq is 1 exactly when isLegal(sq) is true, for every sq in"
            + " 0..63.", Promise11LegalMaskTest::sameAsIsLegal);
        checks.holds("the masks of boards worked out by hand", Promise11LegalMaskTest::knownMasks);
        checks.holds("bit sq stands for square sq", Promise11LegalMaskTest::oneMoveOnEachSquare);
        checks.holds("It answers 0 if the side to move has no legal move.", Promise11LegalMaskTest::noMove);
        checks.holds("When square 63 is a legal move, bit 63 is set and the long is negative, as Java long values are.",
            Promise11LegalMaskTest::bit63);
        checks.holds("It changes nothing.", Promise11LegalMaskTest::changesNothing);
        checks.finish();
    }

    private static void maskIs(String board, int side, long want) {
        checks.due(board + ", side " + side + ", legalMask()", Boards.laid(board, side).legalMask(), want);
    }

    private static void sameAsIsLegal() {
        Numbers numbers = new Numbers(11);
        for (int round = 0; round < 2000; round++) {
            int side = 1 + round % 2;
            String board = numbers.board(numbers.below(65), new int[] {10, 50, 90}[round % 3]);
            ReversiSolver x = Boards.laid(board, side);
            long mask = x.legalMask();
            checks.due(board + ", side " + side + ", legalMask()", mask, Reference.of(x).mask(side));
            for (int sq = 0; sq < 64; sq++) {
                checks.due(board + ", side " + side + ", bit " + sq, (mask >>> sq & 1) == 1, x.isLegal(sq));
            }
        }
    }

    private static void knownMasks() {
        maskIs(Boards.START, 1, 1L << 19 | 1L << 26 | 1L << 37 | 1L << 44);
        maskIs(Boards.START, 2, 1L << 20 | 1L << 29 | 1L << 34 | 1L << 43);
        maskIs("........ ........ ........ ........ ........ ........ ........ BW......", 1, 1L << 58);
        maskIs("........ ........ ........ ........ ........ ........ ........ ......WB", 1, 1L << 61);
        maskIs("........ ........ ........ WB...... ........ ........ ........ ........", 2, 1L << 26);
        maskIs("........ .......B .......W ........ ........ ........ ........ ........", 1, 1L << 31);
    }

    private static void oneMoveOnEachSquare() {
        for (int sq = 0; sq < 64; sq++) {
            int beside = sq % 8 < 6 ? sq + 1 : sq - 1;
            String board = Boards.with(Boards.with(Boards.ALL_WHITE, sq, '.'), beside, 'B');
            maskIs(board, 2, 1L << sq);
            maskIs(Boards.otherColours(board), 1, 1L << sq);
        }
    }

    private static void noMove() {
        for (String board : new String[] {Boards.CLEAR, Boards.OVER, Boards.FULL, Boards.ALL_BLACK, Boards.ALL_WHITE}) {
            maskIs(board, 1, 0);
            maskIs(board, 2, 0);
        }
        maskIs(Boards.TWO_EMPTY, 2, 0);
        maskIs(Boards.otherColours(Boards.TWO_EMPTY), 1, 0);
    }

    private static void bit63() {
        maskIs(Boards.with(Boards.TWO_EMPTY, 0, 'B'), 1, Long.MIN_VALUE);
        maskIs(Boards.TWO_EMPTY, 1, Long.MIN_VALUE + 1);
        maskIs(Boards.with(Boards.TWO_EMPTY, 63, 'B'), 1, 1);
        maskIs("........ ........ ........ ........ ........ ........ ........ BWWWWWW.", 1, Long.MIN_VALUE);
        maskIs(".......B .......W .......W .......W .......W .......W .......W ........", 1, Long.MIN_VALUE);
        maskIs("B....... .W...... ..W..... ...W.... ....W... .....W.. ......W. ........", 1, Long.MIN_VALUE);
        checks.due("negative", Boards.laid(Boards.TWO_EMPTY, 1).legalMask() < 0, true);
    }

    private static void changesNothing() {
        for (Known known : Known.all()) {
            known.unchangedBy(checks, "legalMask()", ReversiSolver::legalMask, known.board.mask(known.side));
        }
    }
}
