import java.util.List;

/** The document's first page: what a caller can do, told in its own order, and what solve is worth to a player. */
public final class WhatItIsTest {
    private static final Checks checks = new Checks();
    private static final int[] BLACK_OF_100 = {50, 3, 97, 20, 80, 8, 92};

    public static void main(String[] args) {
        checks.holds("A caller can start from the standard opening or from an empty board.", WhatItIsTest::starts);
        checks.holds("The caller can lay out any position square by square or row by row and choose the side to move.",
            WhatItIsTest::twoWaysToLayOut);
        checks.holds("The caller can then play moves and passes under the exact rules", WhatItIsTest::playedFromLayouts);
        checks.holds("a move must outflank at least one straight line of enemy discs, and all outflanked lines flip",
            WhatItIsTest::outflanked);
        checks.holds("a pass is allowed only when the game is not over and the side to move has no move",
            WhatItIsTest::passes);
        checks.holds("the game is over when neither side can move", WhatItIsTest::over);
        checks.holds("solve computes the exact result of perfect play for both sides", WhatItIsTest::perfectPlay);
        checks.holds("The result is the final disc difference from the view of the side to move, and empty squares count"
            + " for nobody.", WhatItIsTest::finalDifference);
        checks.holds("at every step it takes the lowest-numbered move that reaches the perfect-play value",
            WhatItIsTest::lowestAtEveryStep);
        checks.holds("and it records forced passes as PASS", WhatItIsTest::forcedPasses);
        checks.holds("Public constants", WhatItIsTest::constants);
        checks.finish();
    }

    private static void starts() {
        ReversiSolver x = new ReversiSolver();
        checks.due("new, state", Boards.state(x), Boards.START + " side 1" + Boards.NOTHING_HELD);
        x.reset(1);
        checks.due("reset(1), state", Boards.state(x), Boards.CLEAR + " side 1" + Boards.NOTHING_HELD);
        x.reset(0);
        checks.due("reset(0), state", Boards.state(x), Boards.START + " side 1" + Boards.NOTHING_HELD);
    }

    private static int bits(String row, char disc) {
        int bits = 0;
        for (int col = 0; col < 8; col++) {
            bits |= row.charAt(col) == disc ? 1 << col : 0;
        }
        return bits;
    }

    /** The rows in an order that starts anywhere, over whatever stood there before. */
    private static void layByRows(ReversiSolver x, String board, int side, int first) {
        String[] rows = board.split(" ");
        for (int n = 0; n < 8; n++) {
            int row = (first + n) % 8;
            x.setRow(row, bits(rows[row], 'B'), bits(rows[row], 'W'));
        }
        x.setSideToMove(side);
    }

    private static void twoWaysToLayOut() {
        Numbers numbers = new Numbers(201);
        ReversiSolver byRows = new ReversiSolver();
        ReversiSolver bySquares = new ReversiSolver();
        for (int round = 0; round < 1300; round++) {
            int side = 1 + numbers.below(2);
            String board = numbers.board(round % 65, BLACK_OF_100[round % 7]);
            layByRows(byRows, board, side, numbers.below(8));
            Boards.lay(bySquares, board, side);
            String want = board + " side " + side + Boards.NOTHING_HELD;
            checks.due(board + ", by rows, state", Boards.state(byRows), want);
            checks.due(board + ", by squares, state", Boards.state(bySquares), want);
            checks.due(board + ", legalMask()", byRows.legalMask(), bySquares.legalMask());
            checks.due(board + ", solve()", byRows.solve(), bySquares.solve());
            checks.due(board + ", solution", Boards.solution(byRows), Boards.solution(bySquares));
        }
    }

    /** From a laid out position to the end of the game, by random moves. */
    private static void playedFromLayouts() {
        Numbers numbers = new Numbers(202);
        for (int round = 0; round < 120; round++) {
            int side = 1 + round % 2;
            ReversiSolver x = new ReversiSolver();
            layByRows(x, numbers.board(numbers.below(61), BLACK_OF_100[round % 7]), side, 0);
            Reference r = Reference.of(x);
            for (int turn = 0; turn < 128 && !r.over(); turn++) {
                List<Integer> moves = r.moves(side);
                int sq = moves.isEmpty() ? 64 : moves.get(numbers.below(moves.size()));
                int want = sq == 64 ? 0 : r.flips(side, sq).size();
                checks.due(r.text() + ", side " + side + ", entry " + sq, taken(x, sq), want);
                r = sq == 64 ? r : r.after(side, sq);
                side = 3 - side;
                checks.due("board", Boards.board(x), r.text());
                checks.due("sideToMove()", x.sideToMove(), side);
            }
            checks.due(r.text() + ", isGameOver()", x.isGameOver(), true);
        }
    }

    private static int taken(ReversiSolver x, int entry) {
        return entry == 64 ? x.pass() : x.play(entry);
    }

    private static void outflanked() {
        ReversiSolver x = Boards.laid(".WB..... W....... B.W..... ...B.... ........ ........ ........ ........", 1);
        checks.due("two lines closed, a third with a gap, play(0)", x.play(0), 2);
        checks.due("the third line stays, board", Boards.board(x),
            "BBB..... B....... B.W..... ...B.... ........ ........ ........ ........");
        String notClosed = "........ ..W..... ........ ........ ........ ........ ........ ........";
        checks.due("no line closed, play(1)", Boards.laid(notClosed, 1).play(1), -3);
        String ownAlone = "..BB.... ........ ........ ........ ........ ........ ........ ........";
        checks.due("own discs alone, play(1)", Boards.laid(ownAlone, 1).play(1), -3);
    }

    private static void passes() {
        checks.due("a move is there, pass()", new ReversiSolver().pass(), -3);
        checks.due("no move is there, pass()", Boards.laid(Boards.TWO_EMPTY, 2).pass(), 0);
        checks.due("over, pass()", Boards.laid(Boards.OVER, 2).pass(), -2);
        checks.due("no discs, pass()", Boards.laid(Boards.CLEAR, 1).pass(), -2);
    }

    private static void over() {
        checks.due("both can move, isGameOver()", new ReversiSolver().isGameOver(), false);
        checks.due("Black alone can move, isGameOver()", Boards.laid(Boards.TWO_EMPTY, 2).isGameOver(), false);
        checks.due("nobody can move, isGameOver()", Boards.laid(Boards.OVER, 1).isGameOver(), true);
    }

    /** Who follows solve at every turn gets the value at least, whatever the other side plays. */
    private static void perfectPlay() {
        Numbers numbers = new Numbers(203);
        for (int round = 0; round < 400; round++) {
            int side = 1 + round % 2;
            String board = numbers.board(1 + numbers.below(6), BLACK_OF_100[round % 7]);
            ReversiSolver x = Boards.solved(board, side);
            int value = x.solvedValue();
            int result = followed(x, side, numbers);
            checks.due(board + ", side " + side + " got " + result + " of " + value, result >= value, true);
            Boards.lay(x, board, side);
            int conceded = -followed(x, 3 - side, numbers);
            checks.due(board + ", side " + side + " got " + conceded + " against " + value, conceded <= value, true);
        }
    }

    /** The final difference for the side that follows solve, while the other plays at random. */
    private static int followed(ReversiSolver x, int follower, Numbers numbers) {
        for (int turn = 0; turn < 12 && !x.isGameOver(); turn++) {
            List<Integer> moves = Reference.of(x).moves(x.sideToMove());
            int entry = moves.isEmpty() ? 64 : moves.get(numbers.below(moves.size()));
            if (x.sideToMove() == follower) {
                x.solve();
                entry = x.pvMove(0);
            }
            checks.due(Boards.board(x) + ", entry " + entry + " is taken", taken(x, entry) >= 0, true);
        }
        return x.countDiscs(follower) - x.countDiscs(3 - follower);
    }

    private static void finalDifference() {
        checks.due("all 64 at the end", Boards.solved(Boards.TWO_EMPTY, 1).solvedValue(), 64);
        checks.due("all 64 at the end, for the loser", Boards.solved(Boards.TWO_EMPTY, 2).solvedValue(), -64);
        checks.due("two squares left empty", Boards.solved(Boards.OVER, 1).solvedValue(), 62);
        checks.due("five squares left empty after a move", Solutions.OF_LENGTH[1].solved().solvedValue(), 59);
    }

    /** At each entry, no lower move reaches as much, and this one reaches what is left of the value. */
    private static void lowestAtEveryStep() {
        Numbers numbers = new Numbers(204);
        for (int round = 0; round < 300; round++) {
            int side = 1 + round % 2;
            ReversiSolver x = Boards.solved(numbers.board(2 + numbers.below(5), BLACK_OF_100[round % 7]), side);
            Reference r = Reference.of(x);
            int value = x.solvedValue();
            for (int i = 0; i < x.pvLength(); i++) {
                int entry = x.pvMove(i);
                for (int sq : r.moves(side)) {
                    int reached = sq <= entry ? -r.after(side, sq).value(3 - side) : -65;
                    checks.due(r.text() + ", side " + side + ", " + sq + " reaches the value", reached == value,
                        sq == entry);
                }
                r = entry == 64 ? r : r.after(side, entry);
                side = 3 - side;
                value = -value;
            }
            checks.due(r.text() + ", over at the end", r.over(), true);
        }
    }

    private static void forcedPasses() {
        checks.due("a pass between two moves", Boards.solution(Boards.solved(Boards.TWO_EMPTY, 1)), " held 64: 0 64 63");
        checks.due("a pass first", Boards.solution(Boards.solved(Boards.TWO_EMPTY, 2)), " held -64: 64 0 64 63");
        checks.due("a pass before every move", Boards.solution(Boards.solved(Boards.TWELVE_ENTRIES, 1)),
            Boards.TWELVE_ENTRIES_SOLUTION);
    }

    private static void constants() {
        checks.due("EMPTY", ReversiSolver.EMPTY, 0);
        checks.due("BLACK", ReversiSolver.BLACK, 1);
        checks.due("WHITE", ReversiSolver.WHITE, 2);
        checks.due("PASS", ReversiSolver.PASS, 64);
        checks.due("SOLVE_LIMIT", ReversiSolver.SOLVE_LIMIT, 6);
        checks.due("OK", ReversiSolver.OK, 0);
        checks.due("ERR_RANGE", ReversiSolver.ERR_RANGE, -1);
        checks.due("ERR_OVER", ReversiSolver.ERR_OVER, -2);
        checks.due("ERR_ILLEGAL", ReversiSolver.ERR_ILLEGAL, -3);
        checks.due("ERR_TOO_MANY", ReversiSolver.ERR_TOO_MANY, -4);
        checks.due("NO_SOLUTION", ReversiSolver.NO_SOLUTION, -100);
    }
}
