/** The sentences of promises 22 to 25: bestScore, bestPlacement, moves and move. */
final class SearchSentences {
    private static final String INDEX = "IndexOutOfBoundsException";
    private static final String ARGUMENT = "IllegalArgumentException";
    private static final int LEAST = Integer.MIN_VALUE;
    private static final int MOST = Integer.MAX_VALUE;

    /** Thirty moves of a game of twelve rounds: the forest, labour, the field, labour, and so on. */
    private static final String THIRTY_MOVES =
        "newGame(2, 12) = 0;" + Games.QUIET_ROUND.repeat(7) + "place(0, 0) = 1; place(4, 0) = 0;";

    private SearchSentences() {
    }

    static void test() {
        bestScore();
        bestPlacement();
        moves();
        move();
    }

    private static void bestScore() {
        String promise = "Promise 22: bestScore";
        Sentence.of(promise, "Returns the result of the best sequence.")
            .holds("of each depth", "bestScore(1) = 9; bestScore(2) = 10; bestScore(3) = 10")
            .holds("a result below 0", Games.onePlacementLeft(8) + "bestScore(1) = -16; bestScore(3) = -16");
        Sentence.of(promise, "depth: 1 to 3")
            .holds("each of them for three free workers", Games.BUNKHOUSE + """
                place(7, 0) = 1; place(4, 0) = 0; place(4, 0) = 1; place(5, 0) = 0; player(0, 2) = 3; player(0, 4) = 1;
                goods(0, 0) = 0; goods(0, 1) = 0; goods(0, 4) = 0; score(0, 6) = 9;
                # round 3: one sheep; 6 clay and the oven or the well; 6 clay and both of them
                bestScore(1) = 10; bestPlacement(1, 0) = 500; bestScore(2) = 11; bestPlacement(2, 0) = 100;
                bestPlacement(2, 1) = 900;
                bestScore(3) = 13; bestPlacement(3, 0) = 100; bestPlacement(3, 1) = 900; bestPlacement(3, 2) = 905""")
            .refuses("0 and 4, and beyond", "", ARGUMENT, Games.calls("bestScore(%d)", 0, 4, -1, LEAST, MOST));
        Sentence.of(promise,
            "Returns the result; NONE if the game is over, or the player in turn has no possible placement.")
            .holds("the game is over", Games.OVER + "bestScore(1) = NONE; bestScore(2) = NONE; bestScore(3) = NONE")
            .holds("no possible placement of a player with one free worker", Games.stuckInRoundThree(4) + """
                bestScore(1) = NONE; bestScore(2) = NONE; bestScore(3) = NONE""")
            .holds("no possible placement of a player with two free workers", Games.twoWorkersStuck(8) + """
                bestScore(1) = NONE; bestScore(2) = NONE; bestScore(3) = NONE""");
        Sentence.of(promise, "Throws IllegalArgumentException if depth is out of range")
            .refuses("in the midst of a game", Games.QUIET_ROUND, ARGUMENT, "bestScore(0)", "bestScore(4)")
            .refuses("the game is over", Games.OVER, ARGUMENT, "bestScore(0)", "bestScore(4)")
            .refuses("no possible placement", Games.stuckInRoundThree(4), ARGUMENT, "bestScore(0)", "bestScore(4)");
    }

    private static void bestPlacement() {
        String promise = "Promise 23: bestPlacement";
        Sentence.of(promise, "Returns a placement of the best sequence.")
            .holds("the first and the second one", "bestPlacement(2, 0) = 100; bestPlacement(2, 1) = 905")
            .holds("it can be placed",
                "bestPlacement(2, 0) = 100; place(1, 0) = 1; place(4, 0) = 0; bestPlacement(1, 0) = 905; "
                + "place(9, 5) = 1; score(0, 6) = 10");
        Sentence.of(promise, "depth: 1 to 3")
            .holds("each of them", "bestPlacement(1, 0) = 500; bestPlacement(2, 0) = 100; bestPlacement(3, 0) = 100")
            .refuses("0 and 4, and beyond", "", ARGUMENT, Games.calls("bestPlacement(%d, 0)", 0, 4, -1, LEAST, MOST));
        Sentence.of(promise, "index: 0 to depth - 1")
            .holds("the last one of each depth",
                "bestPlacement(1, 0) = 500; bestPlacement(2, 1) = 905; bestPlacement(3, 2) = NONE")
            .refuses("-1 and 1 of depth 1", "", ARGUMENT, Games.calls("bestPlacement(1, %d)", -1, 1, LEAST, MOST))
            .refuses("-1 and 2 of depth 2", "", ARGUMENT, Games.calls("bestPlacement(2, %d)", -1, 2, LEAST, MOST))
            .refuses("-1 and 3 of depth 3", "", ARGUMENT, Games.calls("bestPlacement(3, %d)", -1, 3, LEAST, MOST));
        Sentence.of(promise,
            "Returns 100 * space + choice; NONE if the best sequence does not have so many placements.")
            .holds("a third placement of two free workers", "bestPlacement(3, 1) = 905; bestPlacement(3, 2) = NONE")
            .holds("a second placement of one free worker",
                "place(0, 0) = 1; place(4, 0) = 0; bestPlacement(2, 0) = 500; bestPlacement(2, 1) = NONE")
            .holds("a second placement where only one is possible", Games.onePlacementLeft(8)
                + "bestPlacement(3, 0) = 200; bestPlacement(3, 1) = NONE")
            .holds("the first placement where none is possible", Games.twoWorkersStuck(8) + """
                bestPlacement(1, 0) = NONE; bestPlacement(2, 0) = NONE; bestPlacement(2, 1) = NONE;
                bestPlacement(3, 2) = NONE""")
            .holds("the game is over", Games.OVER
                + "bestPlacement(1, 0) = NONE; bestPlacement(2, 1) = NONE; bestPlacement(3, 0) = NONE");
        Sentence.of(promise, "Throws IllegalArgumentException if an argument is out of range")
            .refuses("one or both of them", Games.QUIET_ROUND, ARGUMENT, "bestPlacement(0, 0)", "bestPlacement(4, 0)",
                "bestPlacement(1, 1)",
                "bestPlacement(3, -1)", "bestPlacement(0, -1)", "bestPlacement(4, 4)", "bestPlacement(4, 3)",
                    "bestPlacement(-1, -2)")
            .refuses("the game is over", Games.OVER, ARGUMENT, "bestPlacement(0, 0)", "bestPlacement(1, 1)",
                "bestPlacement(4, 3)")
            .refuses("no possible placement", Games.stuckInRoundThree(4), ARGUMENT, "bestPlacement(4, 0)",
                "bestPlacement(2, 2)");
    }

    private static void moves() {
        String promise = "Promise 24: moves";
        Sentence.of(promise,
            "Returns the number of placements and skips that are kept: the latest 30 ones of this game.")
            .holds("29, 30 and 31 moves", "newGame(2, 12) = 0;" + Games.QUIET_ROUND.repeat(7) + """
                moves() = 28; place(0, 0) = 1; moves() = 29; move(0, 2) = 0; place(4, 0) = 0; moves() = 30;
                move(0, 2) = 0; move(29, 2) = 4;
                place(2, 0) = 1; moves() = 30; move(0, 2) = 4; move(28, 2) = 4; move(29, 2) = 2""")
            .holds("a skip is kept too", Games.stuckInRoundThree(4) + "moves() = 24; skip() = 1; moves() = 25")
            .holds("the moves of play are kept one by one", "play(1, 3) = 3; moves() = 3")
            .holds("a new game begins with none, and an undo brings the others back",
                Games.QUIET_ROUND
                    + "moves() = 4; newGame(2, 6) = 1; moves() = 0; place(5, 0) = 1; moves() = 1; move(0, 2) = 5;"
                + "undo() = 3; moves() = 0; undo() = 2; moves() = 4; move(0, 2) = 0")
            .holds("an undo brings back the one that was dropped", THIRTY_MOVES + """
                place(2, 0) = 1; move(0, 2) = 4; undo() = 3; moves() = 30; move(0, 2) = 0; move(29, 2) = 4; undo() = 2;
                moves() = 29; move(0, 2) = 0""")
            .holds("an undo brings back the one that was dropped, the field of round 3", "newGame(2, 12) = 0;" + Games.QUIET_ROUND.repeat(10) + """
                move(0, 0) = 3; move(0, 1) = 0; move(0, 2) = 2; place(11, 1) = 1; move(0, 0) = 3; move(0, 1) = 1;
                move(0, 2) = 4; move(29, 2) = 11;
                undo() = 3; moves() = 30; move(0, 0) = 3; move(0, 1) = 0; move(0, 2) = 2; move(0, 3) = 0;
                move(29, 0) = 10; move(29, 2) = 4""")
            .holds("an undo brings back the one that was dropped, labour of round 4", "newGame(2, 12) = 0;" + Games.QUIET_ROUND.repeat(11) + """
                place(0, 0) = 1; move(0, 0) = 4; move(0, 1) = 1; move(0, 2) = 4; place(11, 23) = 0; move(0, 0) = 5;
                move(0, 1) = 0; move(0, 2) = 0;
                undo() = 3; moves() = 30; move(0, 0) = 4; move(0, 1) = 1; move(0, 2) = 4; move(0, 3) = 0;
                move(29, 0) = 12; move(29, 2) = 0""");
        Sentence.of(promise, "Returns 0 to 30.")
            .holds("0", "moves() = 0")
            .holds("48 moves of a whole game", "newGame(2, 12) = 0;" + Games.QUIET_ROUND.repeat(11)
                + Games.QUIET_LAST_ROUND + "moves() = 30")
            .holds("a game that is over", Games.OVER + "moves() = 4; play(1, 1) = 0; moves() = 4");
    }

    private static void move() {
        String promise = "Promise 25: move";
        Sentence.of(promise, "Returns a part of a placement or a skip.")
            .holds("both of them", Games.stuckInRoundThree(4)
                + "skip() = 1; move(23, 2) = 4; move(24, 2) = NONE; move(4, 3) = 4");
        Sentence.of(promise, "index: 0 to moves() - 1; the oldest one first")
            .holds("one move", "place(5, 0) = 1; move(0, 2) = 5")
            .holds("four moves", Games.QUIET_ROUND
                + "move(0, 2) = 0; move(1, 2) = 4; move(2, 2) = 2; move(3, 2) = 4; move(3, 1) = 1")
            .holds("the latest thirty of 48 moves: the third one of round 5 is the oldest one",
                "newGame(2, 12) = 0;" + Games.QUIET_ROUND.repeat(11) + Games.QUIET_LAST_ROUND + """
                move(0, 0) = 5; move(0, 1) = 0; move(0, 2) = 2; move(1, 0) = 5; move(1, 1) = 1; move(1, 2) = 4;
                move(2, 0) = 6; move(2, 2) = 0;
                move(29, 0) = 12; move(29, 1) = 1; move(29, 2) = 4; move(28, 2) = 2; move(26, 2) = 0""")
            .refuses("no move", "", INDEX, Games.calls("move(%d, 0)", -1, 0, 1, LEAST, MOST))
            .refuses("one move", "place(0, 0) = 1", INDEX, Games.calls("move(%d, 0)", -1, 1, 29, 30))
            .refuses("thirty moves", THIRTY_MOVES, INDEX, Games.calls("move(%d, 0)", -1, 30, 31))
            .refuses("more than thirty moves", THIRTY_MOVES + "place(2, 0) = 1; place(4, 0) = 0", INDEX,
                Games.calls("move(%d, 0)", -1, 30, 31));
        Sentence.of(promise, "what: 0 round, 1 player, 2 space (NONE for a skip), 3 choice (0 for a skip)")
            .holds("a placement with a choice",
                "place(0, 0) = 1; place(11, 23) = 0; move(1, 0) = 1; move(1, 1) = 1; move(1, 2) = 11; move(1, 3) = 23")
            .holds("the move that ends a round is one of this round", Games.QUIET_ROUND
                + "move(3, 0) = 1; place(0, 0) = 1; move(4, 0) = 2; move(4, 1) = 0;"
                + "move(4, 2) = 0; move(4, 3) = 0")
            .holds("a skip", Games.stuckInRoundThree(4)
                + "skip() = 1; move(24, 0) = 3; move(24, 1) = 0; move(24, 2) = NONE; move(24, 3) = 0")
            .holds("a skip of play, and one that ends the game", Games.stuckInRoundThree(3) + """
                play(1, 10) = 1; move(24, 0) = 3; move(24, 1) = 0; move(24, 2) = NONE; move(24, 3) = 0""")
            .refuses("-1 and 4, and beyond", "place(0, 0) = 1", ARGUMENT, Games.calls("move(0, %d)", -1, 4, LEAST,
                MOST));
        Sentence.of(promise, "Throws IndexOutOfBoundsException if there is no such one")
            .refuses("whatever what is", Games.QUIET_ROUND, INDEX, "move(4, 0)", "move(-1, 3)", "move(4, 4)",
                "move(-1, -1)", "move(30, 5)")
            .refuses("a new game has none of the game before", Games.QUIET_ROUND + "newGame(2, 6) = 1", INDEX,
                "move(0, 0)", "move(3, 0)")
            .refuses("the move has been undone", Games.QUIET_ROUND + "undo() = 3", INDEX, "move(3, 0)")
            .refuses("the game is over", Games.OVER, INDEX, "move(4, 0)", "move(-1, 0)");
        Sentence.of(promise, "Throws IllegalArgumentException if what is out of range")
            .refuses("the first and the last move", Games.QUIET_ROUND, ARGUMENT, "move(0, -1)", "move(0, 4)",
                "move(3, -1)", "move(3, 4)")
            .refuses("a skip", Games.stuckInRoundThree(4) + "skip() = 1", ARGUMENT, "move(24, -1)", "move(24, 4)");
    }
}
