import java.util.List;

/** Promise 8: countDiscs counts a colour's discs, and answers -1 for anything else. */
public final class Promise08CountDiscsTest {
    private static final Checks checks = new Checks();

    public static void main(String[] args) {
        checks.holds("for who equal to BLACK or WHITE, it answers the number of squares holding who",
            Promise08CountDiscsTest::randomBoards);
        checks.holds("a number in 0..64", Promise08CountDiscsTest::noneToAll);
        checks.holds("each square counts, square 0 and square 63 as well", Promise08CountDiscsTest::eachSquare);
        checks.holds("for any other who, including EMPTY, it answers -1", Promise08CountDiscsTest::wrongSides);
        checks.holds("It changes nothing.", Promise08CountDiscsTest::changesNothing);
        checks.finish();
    }

    private static void randomBoards() {
        Numbers numbers = new Numbers(8);
        for (int round = 0; round < 400; round++) {
            String board = numbers.board(numbers.below(65), numbers.below(101));
            ReversiSolver x = Boards.laid(board, 1 + round % 2);
            checks.due(board + ", countDiscs(1)", x.countDiscs(1), board.chars().filter(c -> c == 'B').count());
            checks.due(board + ", countDiscs(2)", x.countDiscs(2), board.chars().filter(c -> c == 'W').count());
        }
    }

    /** From the clear board to the full one of one colour, from either end. */
    private static void noneToAll() {
        for (int who = 1; who <= 2; who++) {
            ReversiSolver up = Boards.laid(Boards.CLEAR, 1);
            ReversiSolver down = Boards.laid(Boards.CLEAR, 2);
            for (int discs = 0; discs <= 64; discs++) {
                for (ReversiSolver x : new ReversiSolver[] {up, down}) {
                    checks.due(discs + " discs, countDiscs(" + who + ")", x.countDiscs(who), discs);
                    checks.due(discs + " discs, countDiscs(" + (3 - who) + ")", x.countDiscs(3 - who), 0);
                }
                up.setSquare(discs, who);
                down.setSquare(63 - discs, who);
            }
        }
    }

    private static void eachSquare() {
        for (int sq = 0; sq < 64; sq++) {
            ReversiSolver black = Boards.laid(Boards.with(Boards.CLEAR, sq, 'B'), 1);
            checks.due("black on " + sq + ", countDiscs(1)", black.countDiscs(1), 1);
            checks.due("black on " + sq + ", countDiscs(2)", black.countDiscs(2), 0);
            ReversiSolver white = Boards.laid(Boards.with(Boards.ALL_BLACK, sq, 'W'), 1);
            checks.due("white on " + sq + ", countDiscs(1)", white.countDiscs(1), 63);
            checks.due("white on " + sq + ", countDiscs(2)", white.countDiscs(2), 1);
        }
    }

    private static void wrongSides() {
        for (ReversiSolver x : Boards.everyState()) {
            checks.due("countDiscs(0)", x.countDiscs(0), -1);
            for (int who : Edges.outside(1, 2)) {
                checks.due("countDiscs(" + who + ")", x.countDiscs(who), -1);
            }
        }
    }

    private static void changesNothing() {
        List<Known> all = Known.all();
        for (Known known : all) {
            known.unchangedBy(checks, "countDiscs(1)", x -> x.countDiscs(1), known.board.count(1));
            known.unchangedBy(checks, "countDiscs(2)", x -> x.countDiscs(2), known.board.count(2));
        }
        for (int who : new int[] {0, -1, 3, Integer.MIN_VALUE, Integer.MAX_VALUE}) {
            Known.unchangedBy(checks, all, "countDiscs(" + who + ")", x -> x.countDiscs(who), -1);
        }
    }
}
