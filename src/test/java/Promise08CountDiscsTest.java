/** Promise 8: countDiscs counts a colour's discs, and answers -1 for anything else. */
public final class Promise08CountDiscsTest {
    private static final Checks checks = new Checks();

    public static void main(String[] args) {
        oneByOne(1);
        oneByOne(2);
        randomBoards();
        wrongSides();
        changesNothing();
        checks.finish();
    }

    /** From the clear board to the full one of one colour, 0 to 64 discs. */
    private static void oneByOne(int who) {
        ReversiSolver x = new ReversiSolver();
        x.reset(1);
        for (int discs = 0; discs <= 64; discs++) {
            checks.due(discs + " discs of " + who + ", countDiscs(" + who + ")", x.countDiscs(who), discs);
            checks.due(discs + " discs of " + who + ", countDiscs(" + (3 - who) + ")", x.countDiscs(3 - who), 0);
            x.setSquare(63 - discs, who);
        }
    }

    private static void randomBoards() {
        Numbers numbers = new Numbers(8);
        for (int round = 0; round < 200; round++) {
            String board = numbers.board(numbers.below(65), numbers.below(101));
            ReversiSolver x = Boards.laid(board, 1 + round % 2);
            Reference r = Reference.of(x);
            checks.due(board + ", countDiscs(1)", x.countDiscs(1), r.count(1));
            checks.due(board + ", countDiscs(2)", x.countDiscs(2), r.count(2));
        }
    }

    private static void wrongSides() {
        ReversiSolver x = new ReversiSolver();
        checks.due("countDiscs(0)", x.countDiscs(0), -1);
        for (int who : Boards.NO_CONTENTS) {
            checks.due("countDiscs(" + who + ")", x.countDiscs(who), -1);
        }
    }

    private static void changesNothing() {
        ReversiSolver x = Boards.solvedTwoEmpty();
        x.countDiscs(0);
        x.countDiscs(1);
        x.countDiscs(2);
        checks.due("state after countDiscs", Boards.state(x), Boards.TWO_EMPTY + " side 1" + Boards.TWO_EMPTY_SOLUTION);
    }
}
