/** Whole games from the opening to the end, every position and every solution of them compared with the reference. */
public final class WholeGamesTest {
    private static final Checks checks = new Checks();

    public static void main(String[] args) {
        for (int seed = 0; seed < 200; seed++) {
            game(new Numbers(seed));
        }
        checks.finish();
    }

    private static void game(Numbers numbers) {
        ReversiSolver x = new ReversiSolver();
        Reference r = Reference.of(x);
        int side = 1;
        // Sixty moves and as many passes are the most that a game can have.
        for (int turn = 0; turn < 120 && !r.over(); turn++) {
            compare(x, r, side);
            solved(x, r, side);
            int moves = r.moves(side).size();
            if (moves == 0) {
                checks.due(Boards.state(x) + ", pass()", x.pass(), 0);
            } else {
                int sq = r.moves(side).get(numbers.below(moves));
                checks.due(Boards.state(x) + ", pass()", x.pass(), -3);
                checks.due(Boards.state(x) + ", play(" + sq + ")", x.play(sq), r.flips(side, sq).size());
                r = r.after(side, sq);
            }
            side = 3 - side;
        }
        compare(x, r, side);
        solved(x, r, side);
        checks.due(Boards.state(x) + ", pass() at the end", x.pass(), -2);
    }

    /** At each turn, so that the next turn shows that a move or a pass drops what was held. */
    private static void solved(ReversiSolver x, Reference r, int side) {
        boolean few = r.count(0) <= 6;
        String at = r.text() + " side " + side;
        checks.due(at + ", solve()", x.solve(), few ? 0 : -4);
        checks.due(at + ", solve(), state", Boards.state(x), at + (few ? r.solution(side) : Boards.NOTHING_HELD));
    }

    private static void compare(ReversiSolver x, Reference r, int side) {
        String at = r.text() + " side " + side;
        checks.due(at + ", state", Boards.state(x), at + Boards.NOTHING_HELD);
        checks.due(at + ", legalMask()", x.legalMask(), r.mask(side));
        checks.due(at + ", isGameOver()", x.isGameOver(), r.over());
        checks.due(at + ", countDiscs(1)", x.countDiscs(1), r.count(1));
        checks.due(at + ", countDiscs(2)", x.countDiscs(2), r.count(2));
    }
}
