import java.util.ArrayList;
import java.util.List;
import java.util.Random;

/** Compares the class with the slow model over many runs of calls, wrong ones among them. */
public final class ModelTest {
    private static final int RUNS = 250;
    private static final int CALLS = 400;

    private final Random random;
    private final VillageBoard board = new VillageBoard();
    private final Model model = new Model();
    private final List<String> log = new ArrayList<>();
    private boolean failed;

    private ModelTest(long seed) {
        random = new Random(seed);
    }

    public static void main(String[] args) {
        for (int run = 0; run < RUNS; run++) {
            ModelTest test = new ModelTest(run);
            test.run(run);
            Script.check("run " + run, !test.failed);
        }
        Script.end();
    }

    private void run(int number) {
        compare("newGame", 2 + number % 3, 1 + random.nextInt(12));
        for (int call = 0; call < CALLS && !failed; call++) {
            step();
            if (call % 4 == 0) {
                compare("digest");
            }
        }
        compare("digest");
    }

    private void step() {
        int dice = random.nextInt(100);
        if (dice < 60) {
            makeMove();
        } else if (dice < 85) {
            ask();
        } else if (dice < 92) {
            askWildly();
        } else if (dice < 95) {
            compare("undo");
        } else if (dice < 97) {
            compare("play", 1 + random.nextInt(2), 1 + random.nextInt(10));
        } else if (dice < 98 && random.nextInt(4) == 0) {
            compare("newGame", 2 + random.nextInt(3), 1 + random.nextInt(12));
        } else {
            compare("skip");
        }
    }

    /** Mostly what lets families grow, since full boards, skips and hunger come from them. */
    private void makeMove() {
        int count = model.possible();
        if (count == 0) {
            compare("skip");
            return;
        }
        int[] wanted = {700, 600, 904, 900 + random.nextInt(8), 801, 500};
        int placement = model.option(random.nextInt(count));
        for (int wish : wanted) {
            if (model.reason(wish / 100, wish % 100) == 0 && random.nextInt(3) == 0) {
                placement = wish;
                break;
            }
        }
        compare("place", placement / 100, placement % 100);
    }

    private void ask() {
        int player = random.nextInt(model.players());
        switch (random.nextInt(14)) {
            case 0: compare("reason", random.nextInt(12), random.nextInt(26)); break;
            case 1: compare("goods", player, random.nextInt(5)); break;
            case 2: compare("player", player, random.nextInt(6)); break;
            case 3: compare("owner", random.nextInt(8)); break;
            case 4: compare("space", random.nextInt(12), random.nextInt(4)); break;
            case 5: compare("cost", player, random.nextInt(9) - 1, random.nextInt(2)); break;
            case 6: compare("need", player); break;
            case 7: compare("missing", player); break;
            case 8: compare("score", player, random.nextInt(7)); break;
            case 9: compare("rank", player); break;
            case 10: compare("option", random.nextInt(20)); break;
            case 11: compare("bestScore", 1 + random.nextInt(3)); break;
            case 12: compare("bestPlacement", 3, random.nextInt(3)); break;
            default: compare("move", random.nextInt(31), random.nextInt(4)); break;
        }
    }

    private void askWildly() {
        String[] names = {"newGame", "reason", "place", "play", "goods", "player", "owner", "space", "cost", "need",
            "missing", "score", "rank", "option", "bestScore", "bestPlacement", "move"};
        int[] arities = {2, 2, 2, 2, 2, 2, 1, 2, 3, 1, 1, 2, 1, 1, 1, 2, 2};
        int which = random.nextInt(names.length);
        int[] arguments = new int[arities[which]];
        for (int i = 0; i < arguments.length; i++) {
            arguments[i] = wildNumber();
        }
        compare(names[which], arguments);
    }

    private int wildNumber() {
        int[] edges = {Integer.MIN_VALUE, Integer.MAX_VALUE, -2, -1, 12, 13, 100};
        return random.nextInt(3) == 0 ? edges[random.nextInt(edges.length)] : random.nextInt(16) - 2;
    }

    private void compare(String method, int... arguments) {
        String due = Script.answer(model, method, arguments);
        String got = Script.answer(board, method, arguments);
        log.add(method + java.util.Arrays.toString(arguments) + " = " + got);
        if (log.size() > Script.MOST_CALLS) {
            throw new IllegalStateException("too many calls on one object");
        }
        if (!due.equals(got)) {
            failed = true;
            System.out.println(String.join("\n", log) + "\n  but the model answers " + due);
        }
    }
}
