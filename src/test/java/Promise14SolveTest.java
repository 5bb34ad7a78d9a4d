import java.lang.reflect.Field;

/** Promise 14: solve holds the exact value and the canonical line, or refuses more than six empty squares. */
public final class Promise14SolveTest {
    private static final Checks checks = new Checks();

    public static void main(String[] args) {
        checks.holds("If the board has more than SOLVE_LIMIT EMPTY squares, it answers ERR_TOO_MANY",
            Promise14SolveTest::tooMany);
        checks.holds("and changes nothing", Promise14SolveTest::refusedChangesNothing);
        checks.holds("A solution held from before stays held, unchanged.", Promise14SolveTest::heldFromBefore);
        checks.holds("a refused solve brings no dropped solution back", Promise14SolveTest::noneComesBack);
        checks.holds("This works for every board with at most SOLVE_LIMIT empty squares", Promise14SolveTest::notTooMany);
        checks.holds("it is the number of empty squares that counts, wherever they are", Promise14SolveTest::limitAnywhere);
        checks.holds("The held solution becomes present, with value V(P) and list the PV of P",
            Promise14SolveTest::knownSolutions);
        checks.holds("the same for random boards, by the reference", Promise14SolveTest::randomBoards);
        checks.holds("The board and the side to move are unchanged.", Promise14SolveTest::positionUnchanged);
        checks.holds("The answer is OK.", Promise14SolveTest::answersOk);
        checks.holds("over boards, where the value is the current disc difference from the view of the side to move and"
            + " the PV is empty", Promise14SolveTest::overBoards);
        checks.holds("full boards", Promise14SolveTest::fullBoards);
        checks.holds("positions where the side to move must pass", Promise14SolveTest::mustPass);
        checks.holds("Solving again on the same position gives the same held solution.", Promise14SolveTest::again);
        checks.holds("an earlier solution does not show through a later one", Promise14SolveTest::nothingLeftBehind);
        checks.finish();
    }

    private static void solved(String board, int side, String want) {
        ReversiSolver x = Boards.laid(board, side);
        String call = board + ", side " + side + ", solve()";
        checks.due(call, x.solve(), 0);
        checks.due(call + ", state", Boards.state(x), board + " side " + side + want);
        checks.due(call + ", by the reference", Reference.of(x).solution(side), want);
    }

    private static void answers(String board, int want) {
        for (int side = 1; side <= 2; side++) {
            String call = board + ", side " + side + ", solve()";
            checks.due(call, Boards.laid(board, side).solve(), want);
        }
    }

    /** Three kinds of full board, of which so many squares are emptied, in an order that jumps about. */
    private static String[] withEmpties(int empties) {
        String[] boards = {Boards.ALL_BLACK, Boards.FULL, Boards.HALVES};
        for (int n = 0; n < empties; n++) {
            for (int kind = 0; kind < boards.length; kind++) {
                boards[kind] = Boards.with(boards[kind], (63 + n * 37) % 64, '.');
            }
        }
        return boards;
    }

    /** Over boards as well: one without discs is over, and has 64 empty squares. */
    private static void tooMany() {
        for (int empties = 7; empties <= 64; empties++) {
            for (String board : withEmpties(empties)) {
                answers(board, -4);
            }
        }
        answers(Boards.START, -4);
        answers(Boards.CLEAR, -4);
    }

    private static void refusedChangesNothing() {
        for (int empties = 7; empties <= 64; empties++) {
            for (String board : withEmpties(empties)) {
                Known.laid(board, 1).unchangedBy(checks, "solve()", ReversiSolver::solve, -4);
                Known.laid(board, 2).unchangedBy(checks, "solve()", ReversiSolver::solve, -4);
            }
        }
        Known.laid(Boards.START, 1).unchangedBy(checks, "solve()", ReversiSolver::solve, -4);
    }

    /**
     * Every call that empties a square makes the solution absent, so that no run of calls leads to a refused
     * solve with a solution held. The discs are therefore taken off behind the object's back.
     */
    private static void heldFromBefore() {
        for (Known known : Known.holding()) {
            takeOffAllDiscs(known.x);
            String solution = known.board.solution(known.side);
            checks.due(known.state + ", no discs left, solve()", known.x.solve(), -4);
            checks.due(known.state + ", no discs left, refused solve(), solution", Boards.solution(known.x), solution);
        }
    }

    private static void takeOffAllDiscs(ReversiSolver x) {
        try {
            for (String name : new String[] {"black", "white"}) {
                Field discs = ReversiSolver.class.getDeclaredField(name);
                discs.setAccessible(true);
                discs.setLong(x, 0L);
            }
        } catch (ReflectiveOperationException changed) {
            throw new IllegalStateException("the class keeps its discs elsewhere now", changed);
        }
    }

    private static void noneComesBack() {
        ReversiSolver x = Boards.solved(Boards.TWELVE_ENTRIES, 1);
        x.setSquare(0, 0);
        checks.due("seven empty, solve()", x.solve(), -4);
        checks.due("seven empty, refused solve(), solution", Boards.solution(x), Boards.NOTHING_HELD);
        x.setSquare(0, 1);
        checks.due("six empty again, not solved, solution", Boards.solution(x), Boards.NOTHING_HELD);
        checks.due("six empty again, solve()", x.solve(), 0);
        checks.due("six empty again, solution", Boards.solution(x), Boards.TWELVE_ENTRIES_SOLUTION);
    }

    private static void notTooMany() {
        for (int empties = 0; empties <= 6; empties++) {
            for (String board : withEmpties(empties)) {
                answers(board, 0);
                solved(board, 1, Reference.of(Boards.laid(board, 1)).solution(1));
                solved(board, 2, Reference.of(Boards.laid(board, 2)).solution(2));
            }
        }
    }

    /** Six empty squares and then a seventh, with each square in turn among the six and as the seventh. */
    private static void limitAnywhere() {
        Numbers numbers = new Numbers(141);
        for (int sq = 0; sq < 64; sq++) {
            String five = numbers.board(5, 50);
            if (Boards.contentOf(five, sq) != '.') {
                String six = Boards.with(five, sq, '.');
                answers(five, 0);
                answers(six, 0);
                for (int seventh = 0; seventh < 64; seventh++) {
                    boolean more = Boards.contentOf(six, seventh) != '.';
                    answers(Boards.with(six, seventh, '.'), more ? -4 : 0);
                }
            }
        }
    }

    private static void knownSolutions() {
        for (Solutions known : Solutions.OF_LENGTH) {
            solved(known.board, known.side, known.solution);
        }
        solved(Boards.TWO_EMPTY, 1, Boards.TWO_EMPTY_SOLUTION);
        solved("BBBBBBBB BBBBBBBB BBBBBBBB BBBBBBBB BBBBBBBB BBBBBBBB BBBBBBBB BWWWWWW.", 1, " held 64: 63");
        solved(Boards.SIX_EMPTY, 2, " held 0: 10 31 27 52 15 38");
    }

    private static void randomBoards() {
        Numbers numbers = new Numbers(14);
        int[] blackOf100 = {50, 3, 97, 20, 80, 8, 92};
        for (int round = 0; round < 2100; round++) {
            int side = 1 + round % 2;
            String board = numbers.board(round % 6 == 0 ? 6 : numbers.below(6), blackOf100[round % 7]);
            solved(board, side, Reference.of(Boards.laid(board, side)).solution(side));
        }
    }

    private static void positionUnchanged() {
        for (Solutions known : Solutions.OF_LENGTH) {
            ReversiSolver x = Boards.laid(known.board, known.side);
            x.solve();
            checks.due(known.board + ", solve(), board", Boards.board(x), known.board);
            checks.due(known.board + ", solve(), sideToMove()", x.sideToMove(), known.side);
        }
    }

    private static void answersOk() {
        for (ReversiSolver x : Boards.holding()) {
            checks.due(Boards.state(x) + ", solve()", x.solve(), 0);
        }
        for (Solutions known : Solutions.OF_LENGTH) {
            answers(known.board, 0);
        }
    }

    /** Empty squares count for nobody: 62 black discs and two empty squares are worth 62, not 64. */
    private static void overBoards() {
        solved(Boards.OVER, 1, " held 62:");
        solved(Boards.OVER, 2, " held -62:");
        solved("BB.BBBBB BBBBB.BB BBBBB.BB BBBBBBBB BBBBBBBB BBBBBB.. BBBBBBBB BBB.BBBB", 1, " held 58:");
        solved("BB.BBBBB BBBBB.BB BBBBB.BB BBBBBBBB BBBBBBBB BBBBBB.. BBBBBBBB BBB.BBBB", 2, " held -58:");
        solved("WWWWWWWW WWWWWWWW WWWWWWWW WWWWWWWW WWWWWWWW WWWWWWWW WWWWWWWW WWWWWWW.", 1, " held -63:");
    }

    private static void fullBoards() {
        solved(Boards.FULL, 1, " held 56:");
        solved(Boards.FULL, 2, " held -56:");
        solved(Boards.ALL_WHITE, 1, " held -64:");
        solved(Boards.ALL_WHITE, 2, " held 64:");
        solved(Boards.HALVES, 1, " held 0:");
        solved(Boards.HALVES, 2, " held 0:");
    }

    private static void mustPass() {
        solved(Boards.TWO_EMPTY, 2, " held -64: 64 0 64 63");
        solved(Boards.otherColours(Boards.TWO_EMPTY), 1, " held -64: 64 0 64 63");
        solved("BBBBBBBB BBBBBBBB BBBBBBBB BBBBBBBB BBBBBBBB BBBBBBBB BBBBBBBB BWWWWWW.", 2, " held -64: 64 63");
        solved(Boards.TWELVE_ENTRIES, 1, Boards.TWELVE_ENTRIES_SOLUTION);
    }

    /** At once, after other positions, and on another object. */
    private static void again() {
        ReversiSolver x = new ReversiSolver();
        for (int round = 0; round < 3; round++) {
            for (Solutions known : Solutions.OF_LENGTH) {
                Boards.lay(x, known.board, known.side);
                x.solve();
                checks.due(known.board + ", solve(), solution", Boards.solution(x), known.solution);
                checks.due(known.board + ", solve() again", x.solve(), 0);
                checks.due(known.board + ", solve() again, solution", Boards.solution(x), known.solution);
                checks.due(known.board + ", another object", Boards.solution(known.solved()), known.solution);
            }
        }
    }

    private static void nothingLeftBehind() {
        ReversiSolver x = Boards.solved(Boards.TWELVE_ENTRIES, 1);
        Boards.lay(x, Boards.TWO_EMPTY, 1);
        x.solve();
        checks.due("after a longer line, solution", Boards.solution(x), Boards.TWO_EMPTY_SOLUTION);
        checks.due("after a longer line, pvMove(3)", x.pvMove(3), -1);
        Boards.lay(x, Boards.OVER, 2);
        x.solve();
        checks.due("after a longer line, over, solution", Boards.solution(x), " held -62:");
        checks.due("after a longer line, over, pvMove(0)", x.pvMove(0), -1);
    }
}
