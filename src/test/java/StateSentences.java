/** The sentences of promises 7 to 15: players, turns, goods, buildings, spaces and costs. */
final class StateSentences {
    private static final String INDEX = "IndexOutOfBoundsException";
    private static final String ARGUMENT = "IllegalArgumentException";
    private static final int LEAST = Integer.MIN_VALUE;
    private static final int MOST = Integer.MAX_VALUE;

    private StateSentences() {
    }

    static void test() {
        playersAndRound();
        turnAndMarker();
        goods();
        player();
        owner();
        space();
        cost();
    }

    /** The tests that promises with a player's number have in common. */
    static void testPlayerNumber(String promise, String call) {
        Sentence.of(promise, "player: number of a player")
            .holds("each of two, three and four players",
                beginning(call, 2) + "newGame(3, 1) = 0;" + beginning(call, 3) + "newGame(4, 1) = 0;"
                    + beginning(call, 4))
            .refuses("two players", "", INDEX, Games.calls(call, -1, 2, 3, 4, LEAST, MOST))
            .refuses("three players", "newGame(3, 1) = 0", INDEX, Games.calls(call, -1, 3, 4))
            .refuses("four players", "newGame(4, 1) = 0", INDEX, Games.calls(call, -1, 4, 5))
            .refuses("two players again", "newGame(4, 1) = 0; newGame(2, 1) = 0", INDEX, Games.calls(call, 2, 3));
    }

    /** The call for each player at the beginning of a game. */
    private static String beginning(String call, int players) {
        StringBuilder script = new StringBuilder();
        for (int player = 0; player < players; player++) {
            String answer = answerAtTheBeginning(call.substring(0, call.indexOf('(')), player, players);
            script.append(call.replace("%d", "" + player)).append(" = ").append(answer).append(";\n");
        }
        return script.toString();
    }

    /** What food, members, wood for a room, need, missing, the members' points and rank are then. */
    private static String answerAtTheBeginning(String method, int player, int players) {
        return switch (method) {
            case "goods" -> player == 0 ? "2" : "3";
            case "player" -> "2";
            case "cost", "need" -> "4";
            case "missing" -> player == 0 ? "2" : "1";
            case "score" -> "6";
            case "rank" -> player == 0 ? "" + players : "1";
            default -> throw new IllegalArgumentException(method);
        };
    }

    private static void playersAndRound() {
        Sentence.of("Promise 7: players", "Returns the number of players.")
            .holds("also when the game is over, and behind an undo", Games.OVER + """
                players() = 2; newGame(3, 1) = 1; players() = 3; undo() = 3; players() = 2""");
        Sentence.of("Promise 7: players", "Returns 2 to 4.")
            .holds("2, 3 and 4",
                "players() = 2; newGame(4, 1) = 0; players() = 4; newGame(3, 1) = 0; players() = 3; newGame(2, 1) = 0; "
                + "players() = 2");
        Sentence.of("Promise 8: round", "Returns the present round.")
            .holds("until the last placement of the round", """
                round() = 1; place(0, 0) = 1; place(4, 0) = 0; place(2, 0) = 1; round() = 1; place(4, 0) = 0;
                round() = 2""");
        Sentence.of("Promise 8: round", "Returns 1 or more; the number of rounds of the game plus 1 if it is over.")
            .holds("a game of one round", "newGame(2, 1) = 0; round() = 1;" + Games.QUIET_LAST_ROUND + "round() = 2")
            .holds("a game of twelve rounds", "newGame(2, 12) = 0;" + Games.QUIET_ROUND.repeat(11) + "round() = 12;"
                + Games.QUIET_LAST_ROUND
                + "round() = 13")
            .holds("it stays so", Games.OVER + "play(1, 10) = 0; round() = 2");
    }

    private static void turnAndMarker() {
        Sentence.of("Promise 9: inTurn", "Returns the player in turn.")
            .holds("around the table",
                "newGame(3, 1) = 0; inTurn() = 0; place(0, 0) = 1; inTurn() = 1; place(1, 0) = 2; inTurn() = 2;"
                + "place(2, 0) = 0; inTurn() = 0");
        Sentence.of("Promise 9: inTurn", "Returns the player; NONE if the game is over.")
            .holds("a game that is over, and the undo of its end", Games.OVER
                + "inTurn() = NONE; undo() = 3; inTurn() = 1")
            .holds("a game that ended by a skip", Games.stuckInRoundThree(3)
                + "inTurn() = 0; skip() = NONE; inTurn() = NONE");
        Sentence.of("Promise 10: startPlayer", "Returns the player with the start marker.")
            .holds("at once",
                "startPlayer() = 0; place(0, 0) = 1; startPlayer() = 0; place(10, 0) = 0; startPlayer() = 1; "
                + "undo() = 1; startPlayer() = 0");
        Sentence.of("Promise 10: startPlayer", "Returns the player.")
            .holds("also when the game is over", """
                newGame(4, 1) = 0; place(0, 0) = 1; place(1, 0) = 2; place(2, 0) = 3; place(10, 0) = 0;
                startPlayer() = 3; place(3, 0) = 1;
                place(4, 0) = 2; place(4, 0) = 3; place(5, 0) = NONE; startPlayer() = 3""");
    }

    private static void goods() {
        String promise = "Promise 11: goods";
        Sentence.of(promise, "Returns an amount of a good.")
            .holds("from 0 up, and down to 0 again", """
                goods(0, 0) = 0; place(0, 0) = 1; goods(0, 0) = 3; goods(1, 0) = 0; place(4, 0) = 0; place(9, 4) = 1;
                goods(0, 0) = 0""");
        testPlayerNumber(promise, "goods(%d, 4)");
        Sentence.of(promise, "good: 0 to 4")
            .holds("each of them", Games.each("goods(0, %d) = 0", 0, 1, 2, 3) + "goods(0, 4) = 2")
            .refuses("-1 and 5, and beyond", "", ARGUMENT, Games.calls("goods(0, %d)", -1, 5, LEAST, MOST));
        Sentence.of(promise, "Throws IndexOutOfBoundsException if there is no such player")
            .refuses("whatever the good is", Games.QUIET_ROUND, INDEX, "goods(-1, 0)", "goods(2, 4)", "goods(2, 5)",
                "goods(-1, -1)")
            .refuses("the game is over", Games.OVER, INDEX, "goods(-1, 0)", "goods(2, 0)");
        Sentence.of(promise, "Throws IllegalArgumentException if there is no such good")
            .refuses("each player", Games.QUIET_ROUND, ARGUMENT, "goods(0, -1)", "goods(0, 5)", "goods(1, -1)",
                "goods(1, 5)");
    }

    private static void player() {
        String promise = "Promise 12: player";
        testPlayerNumber(promise, "player(%d, 0)");
        Sentence.of(promise,
            "what: 0 family, 1 members who came in this round, 2 free workers, 3 rooms, 4 begging tokens, 5 buildings as a bit mask")
            .holds("each of them at the beginning", """
                player(0, 0) = 2; player(0, 1) = 0; player(0, 2) = 2; player(0, 3) = 2; player(0, 4) = 0;
                player(0, 5) = 0""")
            .holds("each of them later on", Games.roundSeven(8) + """
                player(0, 0) = 4; player(0, 1) = 0; player(0, 2) = 4; player(0, 3) = 3; player(0, 4) = 11;
                player(0, 5) = 16;
                player(1, 0) = 3; player(1, 1) = 0; player(1, 2) = 3; player(1, 3) = 3; player(1, 4) = 0;
                player(1, 5) = 0""")
            .holds("a member who came in this round, until the next one", Games.BUNKHOUSE + """
                place(7, 0) = 1; player(0, 1) = 1; player(1, 1) = 0; place(4, 0) = 0; place(4, 0) = 1;
                player(0, 1) = 1; place(2, 0) = 0;
                player(0, 1) = 0""")
            .holds("the lowest and the highest bit of the mask", """
                place(1, 0) = 1; place(4, 0) = 0; place(11, 21) = 1; place(4, 0) = 0; place(9, 0) = 1;
                player(0, 5) = 1; place(4, 0) = 0;
                place(1, 0) = 1; place(4, 0) = 0; place(9, 7) = 1; player(0, 5) = 129; player(1, 5) = 0""")
            .refuses("-1 and 6, and beyond", "", ARGUMENT, Games.calls("player(0, %d)", -1, 6, LEAST, MOST));
        Sentence.of(promise, "Throws IndexOutOfBoundsException if there is no such player")
            .refuses("whatever what is", Games.QUIET_ROUND, INDEX, "player(-1, 0)", "player(2, 5)", "player(2, 6)",
                "player(-1, -1)")
            .refuses("the game is over", Games.OVER, INDEX, "player(-1, 0)", "player(2, 0)");
        Sentence.of(promise, "Throws IllegalArgumentException if what is out of range")
            .refuses("each player", Games.QUIET_ROUND, ARGUMENT, "player(0, -1)", "player(0, 6)", "player(1, -1)",
                "player(1, 6)");
    }

    private static void owner() {
        String promise = "Promise 13: owner";
        String kiln = "newGame(4, 6) = 0; place(2, 0) = 1; place(3, 0) = 2; place(4, 0) = 3; place(1, 0) = 0; "
            + "place(4, 0) = 1; place(5, 0) = 2;"
            + "place(0, 0) = 3; place(9, 7) = 0;";
        Sentence.of(promise, "Returns the owner of a building.")
            .holds("the first and the last player", kiln + """
                owner(7) = 3; place(0, 0) = 1; place(1, 0) = 2; place(2, 0) = 3; place(3, 0) = 0; place(9, 4) = 1;
                owner(4) = 0; owner(7) = 3""");
        Sentence.of(promise, "building: 0 to 7")
            .holds("each of them", Games.each("owner(%d) = NONE", 0, 1, 2, 3, 4, 5, 6, 7))
            .refuses("-1 and 8, and beyond", "", INDEX, Games.calls("owner(%d)", -1, 8, 31, 32, 39, LEAST, MOST));
        Sentence.of(promise, "Returns the player; NONE if nobody has it.")
            .holds("until it is built, and again behind an undo and in a new game", """
                owner(6) = NONE; place(0, 0) = 1; place(4, 0) = 0; owner(6) = NONE; place(9, 6) = 1; owner(6) = 0;
                owner(5) = NONE; owner(7) = NONE;
                undo() = 2; owner(6) = NONE; place(9, 6) = 1; newGame(2, 6) = 0; owner(6) = NONE""");
        Sentence.of(promise, "Throws IndexOutOfBoundsException if there is no such building")
            .refuses("a player has buildings", kiln, INDEX, "owner(-1)", "owner(8)")
            .refuses("the game is over", Games.OVER, INDEX, "owner(-1)", "owner(8)");
    }

    private static void space() {
        String promise = "Promise 14: space";
        Sentence.of(promise, "space: 0 to 11")
            .holds("each of them", Games.each("space(%d, 1) = 0", 0, 1, 2, 3, 4, 5, 6, 7, 8, 9, 10, 11))
            .refuses("-1 and 12, and beyond", "", INDEX, Games.calls("space(%d, 0)", -1, 12, LEAST, MOST));
        Sentence.of(promise,
            "what: 0 goods that lie there, 1 occupied places, 2 places, 3 the player who came there first in this round (NONE if it "
                + "is not occupied)")
            .holds("a space that is not occupied",
                "space(4, 0) = 0; space(4, 1) = 0; space(4, 2) = 2; space(4, 3) = NONE; space(0, 0) = 3")
            .holds("the first player stays the first one", """
                place(0, 0) = 1; space(0, 0) = 0; space(0, 1) = 1; space(0, 3) = 0; place(4, 0) = 0; space(4, 1) = 1;
                space(4, 3) = 1;
                place(4, 0) = 1; space(4, 1) = 2; space(4, 2) = 2; space(4, 3) = 1""")
            .holds("in this round alone", Games.QUIET_ROUND
                + "space(4, 1) = 0; space(4, 3) = NONE; place(4, 0) = 1; space(4, 1) = 1; space(4, 3) = 0")
            .refuses("-1 and 4, and beyond", "", ARGUMENT, Games.calls("space(0, %d)", -1, 4, LEAST, MOST));
        Sentence.of(promise, "Throws IndexOutOfBoundsException if there is no such space")
            .refuses("whatever what is", Games.QUIET_ROUND, INDEX, "space(-1, 0)", "space(12, 3)", "space(12, 4)",
                "space(-1, -1)")
            .refuses("the game is over", Games.OVER, INDEX, "space(-1, 0)", "space(12, 0)");
        Sentence.of(promise, "Throws IllegalArgumentException if what is out of range")
            .refuses("the first and the last space", Games.QUIET_ROUND, ARGUMENT, "space(0, -1)", "space(0, 4)",
                "space(11, -1)", "space(11, 4)");
    }

    private static void cost() {
        String promise = "Promise 15: cost";
        Sentence.of(promise, "Returns what a building would cost a player now, whether somebody has it or not.")
            .holds("a building that the player, or another one, has", """
                place(0, 0) = 1; place(4, 0) = 0; cost(0, 4, 0) = 3; place(9, 4) = 1; owner(4) = 0; cost(0, 4, 0) = 3;
                cost(1, 4, 0) = 3""")
            .holds("now: the carpenter makes a difference at once, and an undo takes it back", """
                place(0, 0) = 1; place(4, 0) = 0; cost(0, 4, 0) = 3; place(9, 6) = 1; cost(0, 4, 0) = 2;
                cost(1, 4, 0) = 3; cost(0, 6, 0) = 1;
                undo() = 2; cost(0, 4, 0) = 3""")
            .holds("also when the game is over, and with five rooms", Games.OVER
                + "cost(0, NONE, 0) = 4; cost(1, 7, 1) = 1")
            .holds("a sixth room", Games.FIVE_ROOMS + "cost(0, NONE, 0) = 4; cost(0, NONE, 1) = 1");
        testPlayerNumber(promise, "cost(%d, NONE, 0)");
        Sentence.of(promise, "building: 0 to 7, or NONE for a room")
            .holds("the wood of each", """
                cost(0, NONE, 0) = 4; cost(0, 0, 0) = 0; cost(0, 1, 0) = 2; cost(0, 2, 0) = 2; cost(0, 3, 0) = 1;
                cost(0, 4, 0) = 3;
                cost(0, 5, 0) = 0; cost(0, 6, 0) = 1; cost(0, 7, 0) = 0""")
            .holds("the clay of each", """
                cost(0, NONE, 1) = 1; cost(0, 0, 1) = 3; cost(0, 1, 1) = 1; cost(0, 2, 1) = 0; cost(0, 3, 1) = 1;
                cost(0, 4, 1) = 0;
                cost(0, 5, 1) = 2; cost(0, 6, 1) = 0; cost(0, 7, 1) = 1""")
            .refuses("-2 and 8, and beyond", "", ARGUMENT, Games.calls("cost(0, %d, 0)", -2, 8, LEAST, MOST));
        Sentence.of(promise, "good: WOOD or CLAY")
            .holds("both", "cost(0, NONE, 0) = 4; cost(0, NONE, 1) = 1")
            .refuses("-1 and 2, and beyond", "", ARGUMENT, Games.calls("cost(0, 0, %d)", -1, 2, 3, 4, 5, LEAST, MOST));
        Sentence.of(promise, "Throws IndexOutOfBoundsException if there is no such player")
            .refuses("whatever the others are", Games.QUIET_ROUND, INDEX, "cost(-1, 0, 0)", "cost(2, 7, 1)",
                "cost(2, 8, 0)", "cost(-1, 0, 2)",
                "cost(2, -2, -1)")
            .refuses("the game is over", Games.OVER, INDEX, "cost(-1, 0, 0)", "cost(2, 0, 0)");
        Sentence.of(promise, "Throws IllegalArgumentException if building or good is out of range")
            .refuses("one or both of them", Games.QUIET_ROUND, ARGUMENT, "cost(0, 8, 0)", "cost(1, -2, 1)",
                "cost(0, 0, 2)", "cost(1, NONE, -1)",
                "cost(0, 8, 2)", "cost(0, -2, -1)");
    }
}
