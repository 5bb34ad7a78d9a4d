/** Promise 12: play flips every outflanked line and nothing else, or refuses and changes nothing. */
public final class Promise12PlayTest {
    private static final Checks checks = new Checks();

    public static void main(String[] args) {
        knownMoves();
        dropsTheSolution();
        noPassByItself();
        refusals();
        randomMoves();
        checks.finish();
    }

    private static void played(String before, int side, int sq, int flips, String after) {
        ReversiSolver x = Boards.laid(before, side);
        String call = before + ", side " + side + ", play(" + sq + ")";
        checks.due(call, x.play(sq), flips);
        checks.due(call + ", state", Boards.state(x), after + " side " + (3 - side) + Boards.NOTHING_HELD);
    }

    private static void knownMoves() {
        played(Boards.START, 1, 19, 1,
            "........ ........ ...B.... ...BB... ...BW... ........ ........ ........");
        played(Boards.START, 2, 20, 1,
            "........ ........ ....W... ...WW... ...BW... ........ ........ ........");
        // All eight directions at once, each run as long as it can be: 19 flips, the most there are from square 27.
        played("B..B..B. .W.W.W.. ..WWW... BWW.WWWB ..WWW... .W.W.W.. B..W..W. ...B...B", 1, 27, 19,
            "B..B..B. .B.B.B.. ..BBB... BBBBBBBB ..BBB... .B.B.B.. B..B..B. ...B...B");
        // A run stops at the first own disc; what lies behind it stays.
        played(".WBWB... ........ ........ ........ ........ ........ ........ ........", 1, 0, 1,
            "BBBWB... ........ ........ ........ ........ ........ ........ ........");
        // A line that ends at an empty square or at the edge flips nothing while another does.
        played("WWW.WWB. ...W.... ........ ...W.... ...B.... ........ ........ ........", 1, 3, 2,
            "WWWBBBB. ...W.... ........ ...W.... ...B.... ........ ........ ........");
        // A flipped disc outflanks nothing by itself.
        played(".WB..... .W...... .B...... ........ ........ ........ ........ ........", 1, 0, 1,
            "BBB..... .W...... .B...... ........ ........ ........ ........ ........");
        played("........ ........ ........ ........ ........ ........ ........ BWWWWWW.", 1, 63, 6,
            "........ ........ ........ ........ ........ ........ ........ BBBBBBBB");
        played(Boards.TWO_EMPTY, 1, 0, 1, Boards.TWO_EMPTY.replace(".WB", "BBB"));
        played(Boards.TWO_EMPTY, 1, 63, 1, Boards.TWO_EMPTY.replace("BW.", "BBB"));
    }

    private static void dropsTheSolution() {
        ReversiSolver x = Boards.solvedTwoEmpty();
        checks.due("solved, play(63)", x.play(63), 1);
        checks.due("solved, play(63), solution", Boards.solution(x), Boards.NOTHING_HELD);
    }

    /** White cannot move after the first move, and nobody after the second. */
    private static void noPassByItself() {
        ReversiSolver x = Boards.laid(Boards.TWO_EMPTY, 1);
        x.play(0);
        checks.due("play(0), sideToMove()", x.sideToMove(), 2);
        checks.due("play(0), legalMask()", x.legalMask(), 0);
        checks.due("play(0), play(63)", x.play(63), -3);
        checks.due("play(0), isGameOver()", x.isGameOver(), false);
        x.pass();
        x.play(63);
        checks.due("play(0), pass(), play(63), isGameOver()", x.isGameOver(), true);
        checks.due("play(0), pass(), play(63), sideToMove()", x.sideToMove(), 2);
    }

    private static void refusals() {
        ReversiSolver start = new ReversiSolver();
        ReversiSolver solved = Boards.solvedTwoEmpty();
        ReversiSolver mustPass = Boards.laid(Boards.TWO_EMPTY, 2);
        ReversiSolver over = Boards.laid(Boards.TWO_EMPTY.replace('W', 'B'), 1);
        ReversiSolver full = Boards.laid(Boards.TWO_EMPTY.replace('.', 'W'), 2);
        mustPass.solve();
        over.solve();
        full.solve();
        ReversiSolver[] all = {start, solved, mustPass, over, full, Boards.laid(Boards.CLEAR, 2)};
        for (ReversiSolver x : all) {
            for (int sq : Boards.NO_SQUARES) {
                refused(x, sq, -1);
            }
            for (int sq = 0; sq < 64; sq++) {
                if (Reference.of(x).flips(x.sideToMove(), sq).isEmpty()) {
                    refused(x, sq, -3);
                }
            }
        }
        refused(start, 19 + 64, -1);
        refused(start, 19 - 64, -1);
    }

    private static void refused(ReversiSolver x, int sq, int want) {
        String before = Boards.state(x);
        checks.due(before + ", play(" + sq + ")", x.play(sq), want);
        checks.due(before + ", play(" + sq + "), state", Boards.state(x), before);
    }

    private static void randomMoves() {
        Numbers numbers = new Numbers(12);
        for (int round = 0; round < 1000; round++) {
            int side = 1 + round % 2;
            String board = numbers.board(numbers.below(65), new int[] {20, 50, 80}[round % 3]);
            Reference r = Reference.of(Boards.laid(board, side));
            for (int sq = 0; sq < 64; sq++) {
                int flips = r.flips(side, sq).size();
                ReversiSolver x = Boards.laid(board, side);
                String call = board + ", side " + side + ", play(" + sq + ")";
                checks.due(call, x.play(sq), flips > 0 ? flips : -3);
                if (flips > 0) {
                    checks.due(call + ", state", Boards.state(x),
                        r.after(side, sq).text() + " side " + (3 - side) + Boards.NOTHING_HELD);
                }
            }
        }
    }
}
