import java.util.ArrayList;
import java.util.List;

/** All that the calls tell of an object, so that two objects can be compared. */
final class Snapshot {
    private final VillageBoard board;
    private final List<String> answers = new ArrayList<>();

    private Snapshot(VillageBoard board) {
        this.board = board;
    }

    /** Some 400 calls for four players and thirty moves. */
    static List<String> of(VillageBoard board) {
        Snapshot snapshot = new Snapshot(board);
        snapshot.tellGame();
        for (int player = 0; player < board.players(); player++) {
            snapshot.tellPlayer(player);
        }
        snapshot.tellSpaces();
        snapshot.tellSearch();
        snapshot.tellMoves();
        return snapshot.answers;
    }

    private void ask(String method, int... arguments) {
        answers.add(Script.answer(board, method, arguments));
    }

    private void tellGame() {
        ask("digest");
        ask("players");
        ask("round");
        ask("inTurn");
        ask("startPlayer");
        for (int building = 0; building <= 7; building++) {
            ask("owner", building);
        }
    }

    private void tellPlayer(int player) {
        for (int good = 0; good <= 4; good++) {
            ask("goods", player, good);
        }
        for (int what = 0; what <= 5; what++) {
            ask("player", player, what);
        }
        for (int building = -1; building <= 7; building++) {
            ask("cost", player, building, 0);
            ask("cost", player, building, 1);
        }
        ask("need", player);
        ask("missing", player);
        for (int part = 0; part <= 6; part++) {
            ask("score", player, part);
        }
        ask("rank", player);
    }

    private void tellSpaces() {
        for (int space = 0; space <= 11; space++) {
            for (int what = 0; what <= 3; what++) {
                ask("space", space, what);
            }
        }
        int possible = board.possible();
        for (int index = 0; index < possible; index++) {
            ask("option", index);
        }
    }

    private void tellSearch() {
        for (int depth = 1; depth <= 3; depth++) {
            ask("bestScore", depth);
            ask("bestPlacement", depth, depth - 1);
        }
    }

    private void tellMoves() {
        int moves = board.moves();
        for (int index = 0; index < moves; index++) {
            for (int what = 0; what <= 3; what++) {
                ask("move", index, what);
            }
        }
    }
}
