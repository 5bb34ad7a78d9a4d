/** Terms, Game over, Value and Principal variation. */
public final class TermsValueTest {
    private static final Checks checks = new Checks();

    /** Black has one move, on square 1, and White takes everything with its answer on square 4. */
    private static final String LOST = "W.WB.WWW WWWWWWWW WWWWWWWW WWWWWWWW WWWWWWWW WWWWWWWW WWWWWWWW WWWWWWWW";

    public static void main(String[] args) {
        checks.holds("A board is over if and only if neither BLACK nor WHITE has a legal move on it.",
            TermsValueTest::over);
        checks.holds("A full board is over.", TermsValueTest::fullIsOver);
        checks.holds("Being over depends on the board only, not on the side to move.", TermsValueTest::eitherSide);
        checks.holds("If P's board is over: (number of m discs) - (number of o discs).", TermsValueTest::valueWhenOver);
        checks.holds("EMPTY squares count for nobody.", TermsValueTest::emptyCountsForNobody);
        checks.holds("Else, if m has no legal move: -V(same board, o to move).", TermsValueTest::valueOfAPass);
        checks.holds("Else: the maximum, over all legal moves s of m, of -V(board after m plays s, o to move).",
            TermsValueTest::valueOfAMove);
        checks.holds("If Q's board is over, stop.", TermsValueTest::stopsWhenOver);
        checks.holds("If the side to move of Q has no legal move, append PASS and switch the side to move of Q.",
            TermsValueTest::passesInALine);
        checks.holds("Otherwise, append the smallest square number s among the legal moves with -V(Q after s) = V(Q).",
            TermsValueTest::lowestOfTheBest);
        checks.holds("Then let Q = Q after s, with the side switched.", TermsValueTest::lineOfTheRest);
        checks.holds("Two passes never follow each other, so the PV has at most 2*(empty squares) entries.",
            TermsValueTest::atMostTwiceTheEmpty);
        checks.finish();
    }

    private static void overIs(boolean want, String board) {
        for (int side = 1; side <= 2; side++) {
            checks.due(board + ", side " + side + ", isGameOver()", Boards.laid(board, side).isGameOver(), want);
        }
    }

    private static void over() {
        overIs(false, Boards.START);
        overIs(false, Boards.TWO_EMPTY);
        overIs(false, Boards.otherColours(Boards.TWO_EMPTY));
        overIs(true, Boards.OVER);
        overIs(true, Boards.otherColours(Boards.OVER));
        overIs(true, Boards.CLEAR);
    }

    private static void fullIsOver() {
        Numbers numbers = new Numbers(170);
        for (int round = 0; round < 200; round++) {
            overIs(true, numbers.board(0, numbers.below(101)));
        }
    }

    private static void eitherSide() {
        Numbers numbers = new Numbers(171);
        for (int round = 0; round < 1000; round++) {
            String board = numbers.board(numbers.below(8), new int[] {3, 50, 97, 90}[round % 4]);
            boolean black = Boards.laid(board, 1).isGameOver();
            checks.due(board + ", isGameOver() for White", Boards.laid(board, 2).isGameOver(), black);
        }
    }

    private static int value(String board, int side) {
        ReversiSolver x = Boards.solved(board, side);
        return x.solvedValue();
    }

    private static void valueIs(int want, String board, int side) {
        checks.due(board + ", side " + side + ", solvedValue()", value(board, side), want);
    }

    private static void valueWhenOver() {
        valueIs(64, Boards.ALL_BLACK, 1);
        valueIs(-64, Boards.ALL_BLACK, 2);
        valueIs(0, Boards.HALVES, 1);
        for (int sq = 0; sq < 64; sq++) {
            valueIs(62, Boards.with(Boards.ALL_BLACK, sq, 'W'), 1);
            valueIs(-62, Boards.with(Boards.ALL_BLACK, sq, 'W'), 2);
        }
    }

    /** Neither for the winner, as some rules have it, nor for the loser; the square's place makes no difference. */
    private static void emptyCountsForNobody() {
        String board = Boards.ALL_BLACK;
        for (int empties = 1; empties <= 6; empties++) {
            board = Boards.with(board, 63 - 9 * empties + 9, '.');
            valueIs(64 - empties, board, 1);
            valueIs(empties - 64, board, 2);
            valueIs(64 - empties, Boards.otherColours(board), 2);
        }
        // A line that ends with empty squares left: 61 black discs and three empty squares.
        valueIs(61, "BW..BBBB BBBBBBBB BBBBBBBB BBBBBBBB BBBBBBBB BBBBBBBB BBBBBBBB BBBBB.B.", 1);
    }

    private static void valueOfAPass() {
        valueIs(-64, Boards.TWO_EMPTY, 2);
        valueIs(64, Boards.TWO_EMPTY, 1);
        Numbers numbers = new Numbers(172);
        for (int round = 0; round < 1500; round++) {
            String board = numbers.board(1 + numbers.below(6), new int[] {5, 95, 10, 90}[round % 4]);
            int side = 1 + round % 2;
            Reference r = Reference.of(Boards.laid(board, side));
            if (!r.over() && r.moves(side).isEmpty()) {
                valueIs(-value(board, 3 - side), board, side);
            }
        }
    }

    /** The values after each move are asked of the class itself, so that only the step is told here. */
    private static void valueOfAMove() {
        valueIs(-64, LOST, 1);
        valueIs(-64, Boards.otherColours(LOST), 2);
        Numbers numbers = new Numbers(173);
        for (int round = 0; round < 1500; round++) {
            String board = numbers.board(1 + numbers.below(6), new int[] {50, 20, 80}[round % 3]);
            int side = 1 + round % 2;
            Reference r = Reference.of(Boards.laid(board, side));
            int best = -65;
            for (int sq : r.moves(side)) {
                best = Math.max(best, -value(r.after(side, sq).text(), 3 - side));
            }
            if (best > -65) {
                valueIs(best, board, side);
            }
        }
    }

    private static void lineIs(String board, int side, String want) {
        ReversiSolver x = Boards.solved(board, side);
        checks.due(board + ", side " + side + ", solution", Boards.solution(x), want);
    }

    /** With empty squares left or without, before the first entry or after some. */
    private static void stopsWhenOver() {
        lineIs(Boards.OVER, 1, " held 62:");
        lineIs(Boards.FULL, 2, " held -56:");
        lineIs(LOST, 1, " held -64: 1 4");
        lineIs(Solutions.OF_LENGTH[1].board, 1, " held 59: 12");
        lineIs(Solutions.OF_LENGTH[2].board, 2, " held -59: 64 23");
    }

    /** First, in the middle, and every other time; never last, since a pass is followed by a move. */
    private static void passesInALine() {
        lineIs(Boards.TWO_EMPTY, 1, " held 64: 0 64 63");
        lineIs(Boards.TWO_EMPTY, 2, " held -64: 64 0 64 63");
        lineIs(Boards.TWELVE_ENTRIES, 1, Boards.TWELVE_ENTRIES_SOLUTION);
        lineIs(Solutions.OF_LENGTH[7].board, 1, Solutions.OF_LENGTH[7].solution);
    }

    /** The lowest of the best, which is neither always the lowest move nor the last that was tried. */
    private static void lowestOfTheBest() {
        lineIs(Boards.TWO_EMPTY, 1, " held 64: 0 64 63");
        Numbers numbers = new Numbers(174);
        for (int round = 0; round < 1500; round++) {
            String board = numbers.board(2 + numbers.below(5), new int[] {50, 20, 80, 95}[round % 4]);
            int side = 1 + round % 2;
            ReversiSolver x = Boards.solved(board, side);
            Reference r = Reference.of(x);
            int lowest = -1;
            for (int sq : r.moves(side)) {
                int value = -value(r.after(side, sq).text(), 3 - side);
                lowest = lowest < 0 && value == x.solvedValue() ? sq : lowest;
            }
            if (lowest >= 0) {
                checks.due(board + ", side " + side + ", pvMove(0)", x.pvMove(0), lowest);
            }
        }
    }

    /** After the first entry, what is left of the line is the line of the position that the entry leads to. */
    private static void lineOfTheRest() {
        for (Solutions known : Solutions.OF_LENGTH) {
            ReversiSolver x = known.solved();
            int[] line = known.line();
            for (int taken = 0; taken < line.length; taken++) {
                for (int i = taken; i < line.length; i++) {
                    checks.due(known.board + ", after " + taken + ", entry " + i, x.pvMove(i - taken), line[i]);
                }
                checks.due(known.board + ", after " + taken + ", pvLength()", x.pvLength(), line.length - taken);
                if (line[taken] == 64) {
                    x.pass();
                } else {
                    x.play(line[taken]);
                }
                x.solve();
            }
            checks.due(known.board + ", after all, pvLength()", x.pvLength(), 0);
        }
    }

    private static void atMostTwiceTheEmpty() {
        for (Solutions known : Solutions.OF_LENGTH) {
            entriesOf(known.board, known.side);
        }
        Numbers numbers = new Numbers(175);
        for (int round = 0; round < 1500; round++) {
            entriesOf(numbers.board(numbers.below(7), new int[] {50, 3, 97, 90}[round % 4]), 1 + round % 2);
        }
    }

    private static void entriesOf(String board, int side) {
        ReversiSolver x = Boards.solved(board, side);
        int empties = 64 - x.countDiscs(1) - x.countDiscs(2);
        checks.due(board + ", entries", x.pvLength() <= 2 * empties, true);
        for (int i = 1; i < x.pvLength(); i++) {
            checks.due(board + ", two passes at " + i, x.pvMove(i) == 64 && x.pvMove(i - 1) == 64, false);
        }
    }
}
