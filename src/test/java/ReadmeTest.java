import java.io.IOException;
import java.lang.reflect.Field;
import java.lang.reflect.Method;
import java.lang.reflect.Modifier;
import java.nio.file.Files;
import java.nio.file.Path;

/** README.md: its examples answer what it says, and its table leaves no call and no constant out. */
public final class ReadmeTest {
    private static final Checks checks = new Checks();

    private final String readme;
    private int shownTo;

    private ReadmeTest(String readme) {
        this.readme = readme;
    }

    public static void main(String[] args) throws IOException {
        ReadmeTest test = new ReadmeTest(Files.readString(Path.of("README.md")));
        checks.holds("the examples", test::examples);
        checks.holds("every call is told of", test::calls);
        checks.holds("every constant is told of", test::constants);
        checks.holds("every test is told of", test::tests);
        checks.finish();
    }

    /** The README shows this text, after the last one that was shown. */
    private void shown(String text) {
        int at = readme.indexOf(text, shownTo);
        checks.due("README.md shows " + text + " in its place", at >= 0, true);
        shownTo = Math.max(at, shownTo);
    }

    /** The README shows the call with this comment, and the call has answered what the comment says. */
    private void example(String call, String comment, long got, long want) {
        shown(String.format("%-46s// %s\n", call + ";", comment));
        checks.due("README.md, " + call, got, want);
    }

    private void examples() {
        ReversiSolver game = new ReversiSolver();
        playing(game);
        solving(game);
        replaying(game);
    }

    private void playing(ReversiSolver game) {
        shown("ReversiSolver game = new ReversiSolver();     // the opening, Black to move\n");
        long mask = 1L << 19 | 1L << 26 | 1L << 37 | 1L << 44;
        example("game.legalMask()", "bits 19, 26, 37 and 44: where Black may play", game.legalMask(), mask);
        example("game.isLegal(19)", "true", game.isLegal(19) ? 1 : 0, 1);
        example("game.play(19)", "1, the number of discs flipped", game.play(19), 1);
        example("game.sideToMove()", "WHITE", game.sideToMove(), 2);
        example("game.countDiscs(ReversiSolver.BLACK)", "4", game.countDiscs(1), 4);
        example("game.play(0)", "ERR_ILLEGAL, and nothing has changed", game.play(0), -3);
        example("game.pass()", "ERR_ILLEGAL, since White has a move", game.pass(), -3);
        example("game.isGameOver()", "false", game.isGameOver() ? 1 : 0, 0);
    }

    private void solving(ReversiSolver game) {
        game.reset(1);
        shown("game.reset(1); ");
        int row0 = game.setRow(0, 0b11111100, 0b00000010);
        String bits = "row, black's columns, white's columns; bit 0 is column 0";
        example("game.setRow(0, 0b11111100, 0b00000010)", bits, row0, 0);
        shown("for (int row = 1; row < 7; row++) {\n    game.setRow(row, 0b11111111, 0);\n}\n");
        for (int row = 1; row < 7; row++) {
            game.setRow(row, 0b11111111, 0);
        }
        shown("game.setRow(7, 0b00111111, 0);\n");
        game.setRow(7, 0b00111111, 0);
        example("game.setSquare(62, ReversiSolver.WHITE)", "or square by square", game.setSquare(62, 2), 0);
        shown("game.setSideToMove(ReversiSolver.BLACK);\n");
        game.setSideToMove(1);
        example("game.solve()", "OK", game.solve(), 0);
        String value = "64, the final disc difference for the side to move";
        example("game.solvedValue()", value, game.solvedValue(), 64);
        example("game.pvLength()", "3", game.pvLength(), 3);
        example("game.pvMove(0)", "0", game.pvMove(0), 0);
        example("game.pvMove(1)", "PASS", game.pvMove(1), 64);
        example("game.pvMove(2)", "63", game.pvMove(2), 63);
    }

    private void replaying(ReversiSolver game) {
        shown("int[] line = new int[game.pvLength()];\n");
        int[] line = new int[game.pvLength()];
        for (int i = 0; i < line.length; i++) {
            line[i] = game.pvMove(i);
        }
        for (int entry : line) {
            int answer = entry == ReversiSolver.PASS ? game.pass() : game.play(entry);
            checks.due("README.md, replaying " + entry, answer >= 0, true);
        }
        checks.due("README.md, replayed, isGameOver()", game.isGameOver(), true);
        checks.due("README.md, replayed, countDiscs(1)", game.countDiscs(1), 64);
    }

    private void calls() {
        for (Method m : ReversiSolver.class.getDeclaredMethods()) {
            if (Modifier.isPublic(m.getModifiers())) {
                checks.due("a row for " + m.getName(), readme.contains("\n| `" + m.getName() + "("), true);
            }
        }
    }

    private void constants() {
        for (Field f : ReversiSolver.class.getDeclaredFields()) {
            if (Modifier.isPublic(f.getModifiers())) {
                checks.due(f.getName() + " is named", readme.contains("`" + f.getName() + "`"), true);
            }
        }
    }

    /** The tests of the promises are told of by the first and the last. */
    private void tests() {
        for (String name : Path.of("src/test/java").toFile().list()) {
            if (name.endsWith("Test.java") && !name.startsWith("Promise")) {
                checks.due(name + " is named", readme.contains("`" + name.replace(".java", "") + "`"), true);
            }
        }
    }
}
