import java.io.ByteArrayOutputStream;
import java.io.IOException;
import java.io.PrintStream;
import java.net.URL;
import java.net.URLClassLoader;
import java.nio.file.Files;
import java.nio.file.Path;
import java.util.ArrayList;
import java.util.List;
import java.util.Set;
import java.util.TreeSet;
import java.util.regex.Matcher;
import java.util.regex.Pattern;
import javax.tools.ToolProvider;

/** What README.md shows: every call has the answer behind it, every piece of Java compiles, the tables are right. */
public final class ReadmeTest {
    private static final Pattern CALL =
        Pattern.compile("board\\.(\\w+\\(.*?\\)); +// (throws \\w+|-?\\d+|NONE)(: .*|,)?");
    private static final String NEW_OBJECT = "VillageBoard board = new VillageBoard();";
    private static final Set<String> MUST_BE_SHOWN =
        Set.of("newGame", "place", "skip", "bestScore", "bestPlacement", "play", "undo");

    private static final Set<String> SHOWN = new TreeSet<>();

    public static void main(String[] args) throws IOException, ReflectiveOperationException {
        String readme = Files.readString(Path.of("README.md"));
        List<String> pieces = new ArrayList<>();
        String program = "";
        for (String block : blocks(readme, "java")) {
            if (block.contains("class Example")) {
                program = block;
            } else {
                pieces.add(block);
                checkPiece(block);
            }
        }
        Script.check("the pieces show " + MUST_BE_SHOWN + ", but only " + SHOWN, SHOWN.containsAll(MUST_BE_SHOWN));
        checkThatPiecesCompile(pieces);
        checkProgram(program, String.join("", blocks(readme, "text")));
        checkTables(readme);
        Script.check("the page tells how to run the tests", blocks(readme, "sh").contains(".ci/run\n"));
        Script.end();
    }

    private static List<String> blocks(String readme, String language) {
        List<String> found = new ArrayList<>();
        Matcher block = Pattern.compile("```" + language + "\n(.*?)```", Pattern.DOTALL).matcher(readme);
        while (block.find()) {
            found.add(block.group(1));
        }
        return found;
    }

    /** The model is asked too, so that a fault of the class is not written into the page. */
    private static void checkPiece(String piece) throws ReflectiveOperationException {
        List<String> lines = piece.lines().toList();
        Script.check("a piece begins with an object: " + lines.get(0), lines.get(0).equals(NEW_OBJECT));
        VillageBoard board = new VillageBoard();
        Model model = new Model();
        for (String line : lines.subList(1, lines.size())) {
            Matcher shown = CALL.matcher(line);
            Script.check("a call with its answer: " + line, shown.matches());
            if (shown.matches()) {
                String call = withNumbers(shown.group(1));
                String due = shown.group(2).replace("NONE", "-1");
                SHOWN.add(call.substring(0, call.indexOf('(')));
                checkAnswer(line, due, Script.answer(board, call));
                checkAnswer(line + " (model)", due, Script.answer(model, call));
            }
        }
    }

    private static void checkAnswer(String line, String due, String got) {
        Script.check("answered " + got + ": " + line, got.equals(due));
    }

    private static String withNumbers(String call) throws ReflectiveOperationException {
        Matcher constant = Pattern.compile("VillageBoard\\.(\\w+)").matcher(call);
        StringBuilder plain = new StringBuilder();
        while (constant.find()) {
            constant.appendReplacement(plain, "" + VillageBoard.class.getField(constant.group(1)).getInt(null));
        }
        return constant.appendTail(plain).toString();
    }

    private static void checkThatPiecesCompile(List<String> pieces) throws IOException {
        StringBuilder source = new StringBuilder("final class Pieces {\n");
        for (int i = 0; i < pieces.size(); i++) {
            source.append("static void piece").append(i).append("() {\n").append(pieces.get(i)).append("}\n");
        }
        compile("Pieces", source.append("}\n").toString());
    }

    private static void checkProgram(String program, String due) throws IOException, ReflectiveOperationException {
        Path folder = compile("Example", program);
        ByteArrayOutputStream printed = new ByteArrayOutputStream();
        PrintStream console = System.out;
        try (URLClassLoader loader = new URLClassLoader(new URL[] {folder.toUri().toURL()})) {
            System.setOut(new PrintStream(printed, true));
            loader.loadClass("Example").getMethod("main", String[].class).invoke(null, (Object) new String[0]);
        } finally {
            System.setOut(console);
        }
        String got = printed.toString().replace(System.lineSeparator(), "\n");
        Script.check("the first program prints what the page shows, but: " + got, !due.isEmpty() && got.equals(due));
    }

    private static Path compile(String name, String source) throws IOException {
        Path folder = Files.createDirectories(Path.of("out/readme"));
        Path file = Files.writeString(folder.resolve(name + ".java"), source);
        int failed = ToolProvider.getSystemJavaCompiler().run(null, null, null, "--release", "17",
            "-cp", System.getProperty("java.class.path"), "-d", folder.toString(), file.toString());
        Script.check(name + " of the page compiles", failed == 0);
        return folder;
    }

    private static void checkTables(String readme) throws IOException {
        String document = Files.readString(Path.of("../shared/DOC.md"));
        int spaces = 0;
        Matcher space = Pattern.compile("\\| (\\d+) \\| ([A-Z_]+) \\| (\\d) \\| ([^|]+) \\|\n").matcher(readme);
        while (space.find()) {
            checkSpace(Integer.parseInt(space.group(1)), Integer.parseInt(space.group(3)), space.group(4));
            String named = space.group(2) + " (" + space.group(1) + ")";
            Script.check("the document names " + named, document.contains(named));
            spaces++;
        }
        Script.check("the page names the twelve spaces, not " + spaces, spaces == 12);
        int buildings = 0;
        Matcher building =
            Pattern.compile("\\| (\\d) \\| ([A-Z]+) \\| (\\d) \\| (\\d) \\| (\\d) \\|\n").matcher(readme);
        while (building.find()) {
            String said = "- " + building.group(2) + " (" + building.group(1) + "): " + building.group(3) + ", "
                + building.group(4) + ", " + building.group(5) + ". ";
            Script.check("the document says " + said, document.contains(said));
            buildings++;
        }
        Script.check("the page names the eight buildings, not " + buildings, buildings == 8);
    }

    private static void checkSpace(int space, int places, String choices) {
        VillageBoard board = new VillageBoard();
        // Growth is not open in round 1, which would hide whether a choice exists.
        board.play(1, 4);
        Script.check("space " + space + " has " + places + " places", board.space(space, 2) == places);
        for (int choice = -1; choice <= 25; choice++) {
            Script.check("space " + space + " has the choices " + choices + ", asked for " + choice,
                (board.reason(space, choice) != 4) == isChoice(choices, choice));
        }
    }

    private static boolean isChoice(String choices, int choice) {
        Matcher range = Pattern.compile("(\\d) to (\\d):.*").matcher(choices);
        if (range.matches()) {
            return choice >= Integer.parseInt(range.group(1)) && choice <= Integer.parseInt(range.group(2));
        }
        if (choices.startsWith("5 * a + b:")) {
            return choice >= 0 && choice < 25 && choice / 5 != choice % 5;
        }
        return choices.equals("0") && choice == 0;
    }
}
