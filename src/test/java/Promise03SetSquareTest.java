/** Promise 3: setSquare changes one square, or refuses and changes nothing. */
public final class Promise03SetSquareTest {
    private static final Checks checks = new Checks();

    public static void main(String[] args) {
        everySquareEveryContent();
        dropsTheSolution();
        refusals();
        anyLayout();
        checks.finish();
    }

    private static void everySquareEveryContent() {
        for (int sq = 0; sq < 64; sq++) {
            for (int from = 0; from <= 2; from++) {
                for (int to = 0; to <= 2; to++) {
                    for (int side = 1; side <= 2; side++) {
                        change(sq, from, to, side);
                    }
                }
            }
        }
    }

    private static void change(int sq, int from, int to, int side) {
        String before = Boards.with(Boards.TWO_EMPTY, sq, ".BW".charAt(from));
        ReversiSolver x = Boards.laid(before, side);
        String call = "side " + side + ", square " + sq + " from " + from + ", setSquare(" + sq + ", " + to + ")";
        checks.due(call, x.setSquare(sq, to), 0);
        checks.due(call + ", state", Boards.state(x),
            Boards.with(before, sq, ".BW".charAt(to)) + " side " + side + Boards.NOTHING_HELD);
    }

    private static void dropsTheSolution() {
        for (int sq = 0; sq < 64; sq++) {
            ReversiSolver x = Boards.solvedTwoEmpty();
            int same = x.getSquare(sq);
            checks.due("solved, setSquare to the same " + sq, x.setSquare(sq, same), 0);
            checks.due("solved, setSquare to the same " + sq + ", state", Boards.state(x),
                Boards.TWO_EMPTY + " side 1" + Boards.NOTHING_HELD);
        }
        ReversiSolver x = Boards.solvedTwoEmpty();
        x.setSquare(10, 2);
        checks.due("solved, setSquare(10, 2), solution", Boards.solution(x), Boards.NOTHING_HELD);
    }

    private static void refusals() {
        for (int sq : Boards.NO_SQUARES) {
            for (int who = 0; who <= 2; who++) {
                refused(sq, who);
            }
            for (int who : Boards.NO_CONTENTS) {
                refused(sq, who);
            }
        }
        for (int sq = 0; sq < 64; sq++) {
            for (int who : Boards.NO_CONTENTS) {
                refused(sq, who);
            }
        }
    }

    private static void refused(int sq, int who) {
        ReversiSolver x = Boards.solvedTwoEmpty();
        String before = Boards.state(x);
        checks.due("setSquare(" + sq + ", " + who + ")", x.setSquare(sq, who), -1);
        checks.due("setSquare(" + sq + ", " + who + "), state", Boards.state(x), before);
    }

    private static void anyLayout() {
        Numbers numbers = new Numbers(3);
        for (int empties = 0; empties <= 64; empties++) {
            String board = numbers.board(empties, numbers.below(101));
            ReversiSolver x = Boards.laid(board, 2);
            checks.due("laid out, state", Boards.state(x), board + " side 2" + Boards.NOTHING_HELD);
        }
    }
}
