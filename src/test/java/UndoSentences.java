import java.math.BigInteger;
import java.util.ArrayList;
import java.util.List;

/** The sentences of promises 26 and 27: undo and digest. */
final class UndoSentences {
    private static final String STATE = "IllegalStateException";

    private UndoSentences() {
    }

    static void test() {
        undo();
        digest();
        values();
    }

    private static void undo() {
        String promise = "Promise 26: undo";
        Sentence.of(promise, "Restores the latest saved state and removes it from the undo stack.")
            .holds("the latest one first", """
                place(0, 0) = 1; place(4, 0) = 0; undo() = 1; inTurn() = 1; goods(0, 0) = 3; goods(1, 4) = 3;
                undo() = 0; inTurn() = 0;
                goods(0, 0) = 0""")
            .holds("an undo cannot be undone, and other moves take its place", """
                place(0, 0) = 1; undo() = 0; place(5, 0) = 1; goods(0, 3) = 1; goods(0, 0) = 0; undo() = 0;
                goods(0, 3) = 0; moves() = 0""")
            .holds("from one game into the one before", Games.OVER + """
                newGame(4, 12) = 1; play(1, 10) = 10; undo() = 3; moves() = 0; players() = 4; undo() = 2;
                players() = 2; inTurn() = NONE; round() = 2;
                undo() = 1; inTurn() = 1; round() = 1""")
            .holds("it goes on as if the call had not been", """
                place(0, 0) = 1; place(4, 0) = 0; undo() = 1; place(4, 0) = 0; place(2, 0) = 1; place(4, 0) = 0;
                round() = 2; goods(1, 4) = 7;
                goods(0, 0) = 3; moves() = 4""");
        Sentence.of(promise, "Returns the number of states that are left on the stack.")
            .holds("one and two states",
                "place(0, 0) = 1; undo() = 0; place(0, 0) = 1; place(4, 0) = 0; undo() = 1; undo() = 0")
            .holds("four states, and more than four",
                Games.QUIET_ROUND + "undo() = 3; undo() = 2; undo() = 1; undo() = 0;" + Games.QUIET_ROUND
                    + Games.QUIET_ROUND
                + "undo() = 3; undo() = 2; undo() = 1; undo() = 0; round() = 2")
            .holds("the states are counted through a new game",
                "place(0, 0) = 1; newGame(2, 6) = 0; newGame(3, 6) = 0; undo() = 2; undo() = 1; undo() = 0");
        Sentence.of(promise, "Throws IllegalStateException if the stack is empty")
            .refuses("a new object", "", STATE, "undo()")
            .refuses("all states have been restored", "place(0, 0) = 1; play(1, 2) = 2; undo() = 1; undo() = 0",
                STATE, "undo()")
            .refuses("four of five states have been restored", Games.QUIET_ROUND
                + "place(0, 0) = 1; undo() = 3; undo() = 2; undo() = 1; undo() = 0",
                STATE, "undo()")
            .refuses("calls that threw have saved none", """
                place(7, 0) = throws IllegalStateException; newGame(5, 1) = throws IllegalArgumentException;
                play(0, 0) = throws IllegalArgumentException;
                skip() = throws IllegalStateException""", STATE, "undo()");
    }

    private static void digest() {
        String promise = "Promise 27: digest";
        Sentence.of(promise, "Returns a hash of the state.")
            .holds("the same for the same state, and it changes nothing", """
                digest() = any; digest() = same; place(0, 0) = 1; undo() = 0; digest() = same; moves() = 0;
                inTurn() = 0""")
            .refuses("it saves no state", "digest() = any", STATE, "undo()");
        Script.check("the digest differs with the undo stack alone",
            Script.replay("").digest() != Script.replay("newGame(2, 6) = 0").digest());
        Script.check("the digest differs with the number of rounds alone",
            Script.replay("newGame(2, 6) = 0").digest() != Script.replay("newGame(2, 7) = 0").digest());
        Sentence.of(promise, "It starts with h = 18482.");
        // Without a value there is no call to ask; so the first value is followed from h to the end.
        List<Integer> values = valuesOf(new VillageBoard(), 0, 6);
        Script.check("It starts with h = 18482.", new VillageBoard().digest() == wrapped(hash(18482, values)));
        Script.check("h = 0 would give another one", new VillageBoard().digest() != wrapped(hash(0, values)));
    }

    private static void values() {
        Sentence.of("Promise 27: digest",
            "For each of the following values v, in this order, h becomes 31 * h + v (long arithmetic, overflow "
                + "wraps). the number of states on the undo stack, players(), round(), the number of rounds of the game, "
                + "inTurn(), startPlayer(); for each player the amounts of the goods 0 to 4, player() of 0 to 5, need(), "
                + "missing(), score() of 0 to 6, rank(); for each space space() of 0 to 3; possible(), bestScore(1), "
                + "bestPlacement(1, 0); moves(), and for each of them move() of 0 to 3.");
        checkDigest("a new object, without moves", "", 0, 6);
        checkDigest("three players", "newGame(3, 5) = 0; place(0, 0) = 1; place(10, 0) = 2", 3, 5);
        checkDigest("an empty undo stack behind an undo", "place(0, 0) = 1; undo() = 0", 0, 6);
        checkDigest("four players, thirty moves, no possible placement", Games.twoWorkersStuck(8), 4, 8);
        checkDigest("a skip among the moves", Games.stuckInRoundThree(4) + "skip() = 1", 4, 4);
        checkDigest("more than thirty moves", "newGame(2, 12) = 0;" + Games.QUIET_ROUND.repeat(9), 4, 12);
        checkDigest("forty possible placements", Games.EVERYTHING_POSSIBLE, 4, 12);
        checkDigest("five members, and a score below 0", Games.FIVE_MEMBERS, 4, 12);
        checkDigest("the game is over", Games.OVER, 4, 1);
        checkDigest("a skip ended the game", Games.stuckInRoundThree(3) + "skip() = NONE", 4, 3);
    }

    /** The number of states and that of rounds cannot be asked for, so the caller tells them. */
    static void checkDigest(String situation, String script, int states, int rounds) {
        Script.run("Promise 27: digest [" + situation + "]", script);
        List<Integer> values = valuesOf(Script.replay(script), states, rounds);
        BigInteger h = hash(18482, values);
        Script.check("the hash of [" + situation + "] passes the range of long", h.bitLength() > 64);
        Script.check("Promise 27: digest [" + situation + "]", Script.replay(script).digest() == wrapped(h));
    }

    /** Some 350 calls for four players and thirty moves. */
    private static List<Integer> valuesOf(VillageBoard board, int states, int rounds) {
        List<Integer> v = new ArrayList<>(List.of(states, board.players(), board.round(), rounds, board.inTurn(),
            board.startPlayer()));
        int players = board.players();
        for (int player = 0; player < players; player++) {
            for (int good = 0; good <= 4; good++) {
                v.add(board.goods(player, good));
            }
            for (int what = 0; what <= 5; what++) {
                v.add(board.player(player, what));
            }
            v.add(board.need(player));
            v.add(board.missing(player));
            for (int part = 0; part <= 6; part++) {
                v.add(board.score(player, part));
            }
            v.add(board.rank(player));
        }
        for (int space = 0; space <= 11; space++) {
            for (int what = 0; what <= 3; what++) {
                v.add(board.space(space, what));
            }
        }
        v.addAll(List.of(board.possible(), board.bestScore(1), board.bestPlacement(1, 0)));
        int moves = board.moves();
        v.add(moves);
        for (int index = 0; index < moves; index++) {
            for (int what = 0; what <= 3; what++) {
                v.add(board.move(index, what));
            }
        }
        return v;
    }

    /** Without the wrap-around, which is left to the end. */
    private static BigInteger hash(int start, List<Integer> values) {
        BigInteger h = BigInteger.valueOf(start);
        for (int value : values) {
            h = h.multiply(BigInteger.valueOf(31)).add(BigInteger.valueOf(value));
        }
        return h;
    }

    private static long wrapped(BigInteger h) {
        return h.longValue();
    }
}
