/** Long runs of mixed calls, right and wrong, each compared with a model of the whole document. */
public final class RandomCallsTest {
    private static final Checks checks = new Checks();
    private static final int[] ODD = {-1, 0, 1, 2, 3, 63, 64, 65, -64, 255, 256, Integer.MIN_VALUE, Integer.MAX_VALUE};

    private final Numbers numbers;
    private final StringBuilder calls = new StringBuilder();
    private final ReversiSolver x = new ReversiSolver();
    private Reference board = Reference.of(x);
    private int side = 1;
    private String held = Boards.NOTHING_HELD;

    private RandomCallsTest(int seed) {
        numbers = new Numbers(seed);
    }

    public static void main(String[] args) {
        for (int seed = 0; seed < 300 && checks.allRight(); seed++) {
            new RandomCallsTest(seed).run();
        }
        checks.finish();
    }

    private void run() {
        for (int call = 0; call < 120 && checks.allRight(); call++) {
            oneCall();
            checks.due(calls + "state", Boards.state(x), board.text() + " side " + side + held);
            checks.due(calls + "legalMask()", x.legalMask(), board.mask(side));
            checks.due(calls + "isGameOver()", x.isGameOver(), board.over());
        }
    }

    private void oneCall() {
        int kind = numbers.below(100);
        if (kind < 2) {
            doReset();
        } else if (kind < 6) {
            doLay();
        } else if (kind < 14) {
            doSetSquare();
        } else if (kind < 18) {
            doSetRow();
        } else if (kind < 23) {
            doSetSideToMove();
        } else if (kind < 35) {
            doPass();
        } else if (kind < 50) {
            doSolve();
        } else {
            doPlay();
        }
    }

    private int square() {
        return numbers.below(8) == 0 ? ODD[numbers.below(ODD.length)] : numbers.below(64);
    }

    private int who() {
        return numbers.below(8) == 0 ? ODD[numbers.below(ODD.length)] : numbers.below(3);
    }

    private void doReset() {
        int kind = ODD[numbers.below(ODD.length)];
        calls.append("reset(").append(kind).append("), ");
        x.reset(kind);
        board = new Reference();
        if (kind == 0) {
            board.cells[3][3] = 2;
            board.cells[3][4] = 1;
            board.cells[4][3] = 1;
            board.cells[4][4] = 2;
        }
        side = 1;
        held = Boards.NOTHING_HELD;
    }

    private void doLay() {
        String text = numbers.board(numbers.below(6), new int[] {50, 10, 90}[numbers.below(3)]);
        calls.append("lay ").append(text).append(", ");
        Boards.lay(x, text, side);
        board = new Reference();
        for (int sq = 0; sq < 64; sq++) {
            board.cells[sq / 8][sq % 8] = ".BW".indexOf(text.replace(" ", "").charAt(sq));
        }
        held = Boards.NOTHING_HELD;
    }

    private void doSetSquare() {
        int sq = square();
        int who = who();
        calls.append("setSquare(").append(sq).append(", ").append(who).append("), ");
        boolean fits = sq >= 0 && sq < 64 && who >= 0 && who <= 2;
        checks.due(calls.toString(), x.setSquare(sq, who), fits ? 0 : -1);
        if (fits) {
            board.cells[sq / 8][sq % 8] = who;
            held = Boards.NOTHING_HELD;
        }
    }

    private void doSetRow() {
        int row = numbers.below(9);
        int blackBits = numbers.below(270);
        int whiteBits = numbers.below(3) == 0 ? numbers.below(256) : ~blackBits & 255;
        calls.append("setRow(").append(row).append(", ").append(blackBits).append(", ").append(whiteBits).append("), ");
        boolean fits = row < 8 && blackBits < 256 && (blackBits & whiteBits) == 0;
        checks.due(calls.toString(), x.setRow(row, blackBits, whiteBits), fits ? 0 : -1);
        for (int col = 0; fits && col < 8; col++) {
            board.cells[row][col] = (blackBits >> col & 1) == 1 ? 1 : (whiteBits >> col & 1) == 1 ? 2 : 0;
            held = Boards.NOTHING_HELD;
        }
    }

    private void doSetSideToMove() {
        int who = who();
        calls.append("setSideToMove(").append(who).append("), ");
        boolean fits = who == 1 || who == 2;
        checks.due(calls.toString(), x.setSideToMove(who), fits ? 0 : -1);
        if (fits) {
            side = who;
            held = Boards.NOTHING_HELD;
        }
    }

    private void doPass() {
        calls.append("pass(), ");
        boolean over = board.over();
        boolean fits = !over && board.moves(side).isEmpty();
        checks.due(calls.toString(), x.pass(), over ? -2 : fits ? 0 : -3);
        if (fits) {
            side = 3 - side;
            held = Boards.NOTHING_HELD;
        }
    }

    private void doSolve() {
        calls.append("solve(), ");
        boolean fits = board.count(0) <= 6;
        checks.due(calls.toString(), x.solve(), fits ? 0 : -4);
        if (fits) {
            held = board.solution(side);
        }
    }

    private void doPlay() {
        int sq = square();
        if (numbers.below(4) > 0 && !board.moves(side).isEmpty()) {
            sq = board.moves(side).get(numbers.below(board.moves(side).size()));
        }
        calls.append("play(").append(sq).append("), ");
        boolean onBoard = sq >= 0 && sq < 64;
        int flips = onBoard ? board.flips(side, sq).size() : 0;
        checks.due(calls.toString(), x.play(sq), !onBoard ? -1 : flips > 0 ? flips : -3);
        if (flips > 0) {
            board = board.after(side, sq);
            side = 3 - side;
            held = Boards.NOTHING_HELD;
        }
    }
}
