/** The sentences of promises 1 to 6: a new object, newGame, reason, place, skip and play. */
final class GameSentences {
    private static final String INDEX = "IndexOutOfBoundsException";
    private static final String ARGUMENT = "IllegalArgumentException";
    private static final String STATE = "IllegalStateException";
    private static final int LEAST = Integer.MIN_VALUE;
    private static final int MOST = Integer.MAX_VALUE;

    private GameSentences() {
    }

    static void test() {
        aNewObject();
        newGame();
        reason();
        place();
        placeThrows();
        skip();
        play();
        playInRange();
    }

    private static void aNewObject() {
        Sentence.of("Promise 1: A new object",
            "Creates a game of two players with six rounds, at the beginning of round 1, with an empty "
                + "undo stack.")
            .holds("two players at the beginning of round 1", """
                players() = 2; round() = 1; inTurn() = 0; startPlayer() = 0; player(0, 2) = 2; player(1, 2) = 2;
                goods(0, 4) = 2;
                goods(1, 4) = 3; space(0, 0) = 3; space(0, 1) = 0; moves() = 0""")
            .holds("the sixth round is the last one", Games.QUIET_ROUND.repeat(5) + "round() = 6;"
                + Games.QUIET_LAST_ROUND + "round() = 7")
            .refuses("the undo stack is empty", "", STATE, "undo()")
            .refuses("there is no third player", "", INDEX, "need(2)");
    }

    private static void newGame() {
        String promise = "Promise 2: newGame";
        Sentence.of(promise, "Begins a new game, at the beginning of round 1.")
            .holds("in the midst of a game", Games.twoWorkersStuck(8) + """
                newGame(3, 5) = 6; players() = 3; round() = 1; inTurn() = 0; startPlayer() = 0; moves() = 0;
                space(0, 0) = 3; space(1, 0) = 2;
                space(3, 0) = 1; space(5, 0) = 1; space(4, 1) = 0; space(4, 3) = NONE; owner(4) = NONE;
                goods(0, 3) = 0; goods(0, 4) = 2;
                goods(2, 4) = 3; player(0, 0) = 2; player(0, 2) = 2; player(0, 3) = 2; player(0, 4) = 0;
                player(2, 2) = 2""")
            .holds("behind a game that is over", Games.OVER + """
                newGame(2, 1) = 1; round() = 1; inTurn() = 0; goods(0, 0) = 0; space(0, 0) = 3; space(0, 1) = 0;
                possible() = 11; moves() = 0""")
            .holds("the members who came in the round before are gone", Games.BUNKHOUSE + """
                place(7, 0) = 1; player(0, 1) = 1; newGame(2, 6) = 1; player(0, 1) = 0; need(0) = 4""");
        Sentence.of(promise, "Undoable.")
            .holds("it saves one state, the one from before", """
                place(0, 0) = 1; digest() = any; newGame(4, 12) = 0; undo() = 1; digest() = same; players() = 2;
                goods(0, 0) = 3; moves() = 1""");
        Sentence.of(promise, "players: 2 to 4")
            .holds("2, 3 and 4", """
                newGame(2, 6) = 0; players() = 2; newGame(3, 6) = 0; players() = 3; need(2) = 4; newGame(4, 6) = 0;
                players() = 4;
                need(3) = 4""")
            .refuses("1 and 5, and beyond", "", ARGUMENT, Games.calls("newGame(%d, 6)", 1, 5, 0, -1, -2, LEAST, MOST));
        Sentence.of(promise, "rounds: 1 to 12")
            .holds("1", "newGame(2, 1) = 0;" + Games.QUIET_LAST_ROUND)
            .holds("12", "newGame(2, 12) = 0;" + Games.QUIET_ROUND.repeat(11) + Games.QUIET_LAST_ROUND)
            .refuses("0 and 13, and beyond", "", ARGUMENT, Games.calls("newGame(2, %d)", 0, 13, -1, LEAST, MOST));
        Sentence.of(promise, "Returns the number of rounds that were finished in the game before.")
            .holds("none: a new object, and a round that is not finished", """
                newGame(2, 6) = 0; place(0, 0) = 1; place(4, 0) = 0; place(2, 0) = 1; newGame(2, 6) = 0""")
            .holds("one, with and without a part of the next one",
                Games.QUIET_ROUND + "newGame(2, 6) = 1;" + Games.QUIET_ROUND + "place(0, 0) = 1; newGame(2, 6) = 1")
            .holds("all of a game that is over", Games.OVER + "newGame(2, 12) = 1;" + Games.QUIET_ROUND.repeat(11) + Games.QUIET_LAST_ROUND
                + "newGame(2, 6) = 12")
            .holds("a game that an undo has brought back", Games.QUIET_ROUND + """
                newGame(2, 6) = 1; newGame(2, 6) = 0; undo() = 3; undo() = 2; newGame(2, 6) = 1""");
        Sentence.of(promise, "Throws IllegalArgumentException if an argument is out of range")
            .refuses("one or both of them", Games.QUIET_ROUND, ARGUMENT, "newGame(1, 6)", "newGame(5, 6)",
                "newGame(2, 0)", "newGame(4, 13)",
                "newGame(1, 0)", "newGame(5, 13)", "newGame(-2147483648, 2147483647)")
            .refuses("the game is over", Games.OVER, ARGUMENT, "newGame(1, 1)", "newGame(2, 13)");
    }

    private static void reason() {
        String promise = "Promise 3: reason";
        Sentence.of(promise, "Tells why the player in turn cannot make a placement.")
            .holds("the player in turn, not the other one", """
                place(0, 0) = 1; reason(9, 6) = 5; place(4, 0) = 0; reason(9, 6) = 0; place(2, 0) = 1;
                reason(9, 6) = 5; reason(8, 1) = 5""")
            .holds("it changes nothing",
                "digest() = any; reason(0, 0) = 0; reason(7, 0) = 3; reason(9, 9) = 4; digest() = same");
        Sentence.of(promise, "space: 0 to 11")
            .holds("each of them", Games.each("reason(%d, 0) = 0", 0, 1, 2, 3, 4, 5, 10) + """
                reason(6, 0) = 5; reason(7, 0) = 3; reason(8, 1) = 5; reason(9, 0) = 5; reason(11, 20) = 0""")
            .refuses("-1 and 12, and beyond", "", INDEX, Games.calls("reason(%d, 0)", -1, 12, 100, LEAST, MOST));
        Sentence.of(promise, "choice: any number")
            .holds("the least and the greatest number, for each space",
                Games.each("reason(%d, -2147483648) = 4; reason(%d, 2147483647) = 4; reason(%d, -1) = 4; "
                    + "reason(%d, 100) = 4",
                    0, 1, 2, 3, 4, 5, 6, 8, 9, 10, 11) + "reason(7, -2147483648) = 3; reason(7, 2147483647) = 3")
            .holds("numbers that would be a choice if they wrapped around",
                Games.each("reason(9, %d) = 4; reason(8, %d) = 4; reason(11, %d) = 4", 256, 257, 65537, 1 << 16, -255,
                    LEAST + 1, -24, -4));
        Sentence.of(promise, "Returns 0 if the placement is possible, otherwise the reason, 1 to 5.")
            .holds("0, 2, 3, 4 and 5",
                "reason(0, 0) = 0; reason(7, 0) = 3; reason(0, 1) = 4; reason(6, 0) = 5; place(0, 0) = 1; "
                + "reason(0, 0) = 2")
            .holds("1", Games.OVER + Games.each("reason(%d, 0) = 1", 0, 1, 2, 3, 4, 5, 6, 7, 8, 9, 10, 11));
        Sentence.of(promise, "Throws IndexOutOfBoundsException if there is no such space")
            .refuses("whatever the choice is", "", INDEX, "reason(-1, 0)", "reason(12, 0)", "reason(12, 99)",
                "reason(-2147483648, 1)",
                "reason(2147483647, -1)")
            .refuses("the game is over", Games.OVER, INDEX, "reason(-1, 0)", "reason(12, 0)");
    }

    private static void place() {
        String promise = "Promise 4: place";
        Sentence.of(promise, "Makes a placement of the player in turn.")
            .holds("a worker, the goods, the space and the history", """
                place(0, 0) = 1; player(0, 2) = 1; goods(0, 0) = 3; goods(1, 0) = 0; space(0, 0) = 0; space(0, 1) = 1;
                space(0, 3) = 0;
                moves() = 1; move(0, 1) = 0; move(0, 2) = 0; place(4, 0) = 0; player(1, 2) = 1; goods(1, 4) = 5;
                move(1, 1) = 1""");
        Sentence.of(promise, "If the round ends by it, its end, and the start of the next round, are carried out.")
            .holds("the last worker of round 2, not the one before", Games.QUIET_ROUND + """
                place(0, 0) = 1; place(4, 0) = 0; place(1, 0) = 1; round() = 2; goods(0, 4) = 2; goods(0, 2) = 1;
                player(0, 4) = 0; space(0, 0) = 0;
                place(4, 0) = 0; round() = 3; goods(0, 4) = 0; goods(0, 2) = 0; player(0, 4) = 1; goods(1, 4) = 7;
                space(0, 0) = 3;
                space(1, 0) = 2; space(3, 0) = 3; space(5, 0) = 3; space(4, 1) = 0; player(0, 2) = 2;
                player(1, 2) = 2""")
            .holds("no next round behind the last one", Games.OVER
                + "round() = 2; space(0, 0) = 0; space(1, 0) = 2; player(0, 2) = 0");
        Sentence.of(promise, "Undoable.")
            .holds("it saves one state, the one from before",
                "digest() = any; place(0, 0) = 1; undo() = 0; digest() = same; goods(0, 0) = 0")
            .holds("with the end of the round", """
                place(0, 0) = 1; place(4, 0) = 0; place(2, 0) = 1; place(4, 0) = 0; round() = 2; undo() = 3;
                round() = 1; inTurn() = 1;
                space(4, 1) = 1; goods(1, 4) = 5""");
        Sentence.of(promise, "space: 0 to 11")
            .holds("the first and the last one", "place(0, 0) = 1; place(11, 20) = 0; space(11, 1) = 1")
            .refuses("-1 and 12, and beyond", "", INDEX, Games.calls("place(%d, 0)", -1, 12, 100, LEAST, MOST));
        Sentence.of(promise, "choice: the choice")
            .holds("it decides what is got", """
                place(0, 0) = 1; place(11, 21) = 0; goods(1, 1) = 1; place(9, 4) = 1; owner(4) = 0; owner(6) = NONE;
                move(2, 3) = 4""")
            .refuses("a choice that there is not", "", STATE, "place(0, 1)", "place(0, -1)", "place(9, 8)",
                "place(11, 24)", "place(11, 25)",
                "place(8, 4)", "place(4, 2147483647)", "place(4, -2147483648)", "place(9, -2147483648)",
                    "place(11, 2147483647)");
        Sentence.of(promise, "Returns the player who is in turn then; NONE if the game is over then.")
            .holds("the next player, and the first one of the next round", """
                place(0, 0) = 1; inTurn() = 1; place(10, 0) = 0; place(2, 0) = 1; place(4, 0) = 1; inTurn() = 1;
                round() = 2""")
            .holds("the same player", Games.BUNKHOUSE + """
                place(7, 0) = 1; place(4, 0) = 0; place(4, 0) = 1; place(10, 0) = 1;
                place(2, 0) = 0; place(4, 0) = 1; place(3, 0) = 0; place(4, 0) = 0; inTurn() = 0""")
            .holds("NONE", Games.OVER + "inTurn() = NONE");
    }

    private static void placeThrows() {
        String promise = "Promise 4: place";
        Sentence.of(promise, "Throws IndexOutOfBoundsException if there is no such space")
            .refuses("whatever the choice is", Games.QUIET_ROUND, INDEX, "place(-1, 0)", "place(12, 0)",
                "place(12, 99)",
                "place(-2147483648, 1)", "place(2147483647, -1)")
            .refuses("the game is over", Games.OVER, INDEX, "place(-1, 0)", "place(12, 0)");
        Sentence.of(promise, "Throws IllegalStateException if the placement is impossible")
            .refuses("reason 1", Games.OVER, STATE, Games.calls("place(%d, 0)", 0, 1, 2, 3, 4, 5, 6, 7, 10))
            .refuses("reason 2", "place(4, 0) = 1; place(4, 0) = 0; place(0, 0) = 1", STATE, "place(4, 0)",
                "place(0, 0)", "place(0, 1)")
            .refuses("reason 3", "", STATE, "place(7, 0)", "place(7, 1)")
            .refuses("reason 4", "", STATE, "place(10, 1)", "place(8, 0)", "place(9, -1)", "place(11, 12)")
            .refuses("reason 5", "", STATE, "place(6, 0)", "place(8, 1)", "place(9, 0)", "place(9, 7)", "place(11, 1)")
            .refuses("reason 5 in round 2", Games.QUIET_ROUND, STATE, "place(7, 0)", "place(8, 2)", "place(9, 5)")
            .refuses("reason 5, five rooms and five members", Games.FIVE_MEMBERS, STATE, "place(6, 0)", "place(7, 0)",
                "place(9, 4)");
    }

    private static void skip() {
        String promise = "Promise 5: skip";
        Sentence.of(promise, "The player in turn skips.")
            .holds("two workers are not free any more, nothing else of the player changes", Games.twoWorkersStuck(8) + """
                skip() = 1; player(0, 2) = 0; goods(0, 3) = 1; goods(0, 4) = 1; player(0, 0) = 4; player(1, 2) = 1;
                moves() = 30;
                move(29, 0) = 7; move(29, 1) = 0; move(29, 2) = NONE; move(29, 3) = 0; space(4, 1) = 2""")
            .holds("if the round ends by it, the next one starts", Games.stuckInRoundThree(4) + """
                skip() = 1; round() = 4; space(0, 0) = 3; space(4, 1) = 0; player(0, 2) = 3; player(1, 2) = 2""")
            .holds("if the last round ends by it, its end is carried out", Games.stuckInRoundThree(3) + """
                need(0) = 6; goods(0, 3) = 1; goods(0, 4) = 1; player(0, 4) = 1; skip() = NONE;
                # 1 food and 2 of the sheep for 6
                player(0, 4) = 4; goods(0, 3) = 0; goods(0, 4) = 0; player(0, 2) = 0""");
        Sentence.of(promise, "Undoable.")
            .holds("it saves one state, the one from before", Games.stuckInRoundThree(4) + """
                skip() = 1; round() = 4; undo() = 3; round() = 3; inTurn() = 0; player(0, 2) = 1; moves() = 24;
                possible() = 0; skip() = 1""")
            .holds("the end of the game is undone", Games.stuckInRoundThree(3) + """
                skip() = NONE; undo() = 3; inTurn() = 0; round() = 3; player(0, 4) = 1; goods(0, 3) = 1""");
        Sentence.of(promise, "Returns the player who is in turn then; NONE if the game is over then.")
            .holds("the next player who has free workers", Games.twoWorkersStuck(8)
                + "skip() = 1; inTurn() = 1; round() = 7")
            .holds("the player with the start marker, in the next round", Games.stuckInRoundThree(4)
                + "startPlayer() = 1; skip() = 1; inTurn() = 1")
            .holds("NONE", Games.stuckInRoundThree(3) + "skip() = NONE; inTurn() = NONE; round() = 4");
        Sentence.of(promise, "Throws IllegalStateException if the game is over, or the player has a possible placement")
            .refuses("a new object", "", STATE, "skip()")
            .refuses("one possible placement alone", Games.onePlacementLeft(8) + "possible() = 1", STATE, "skip()")
            .refuses("the next player has a possible placement", Games.twoWorkersStuck(8) + "skip() = 1", STATE,
                "skip()")
            .refuses("the game is over", Games.OVER, STATE, "skip()")
            .refuses("a skip ended the game", Games.stuckInRoundThree(3) + "skip() = NONE", STATE, "skip()");
    }

    private static void play() {
        String promise = "Promise 6: play";
        Sentence.of(promise,
            "Makes the best placements of the player in turn, one after the other, each the first one of the best sequence of "
                + "a depth for the player who is in turn then; a player without possible placement skips.")
            .holds("depth 1: labour, field, pasture, forest", """
                newGame(2, 1) = 0; play(1, 10) = 4; move(0, 1) = 0; move(0, 2) = 4; move(1, 1) = 1; move(1, 2) = 2;
                move(2, 1) = 0; move(2, 2) = 5;
                move(3, 1) = 1; move(3, 2) = 0; score(0, 6) = 9; score(1, 6) = 8""")
            .holds("depth 2: clay, pasture, the well, a sheep of the market", """
                play(2, 4) = 4; move(0, 2) = 1; move(1, 2) = 5; move(2, 2) = 9; move(2, 3) = 5; move(3, 2) = 11;
                move(3, 3) = 23;
                owner(5) = 0; goods(1, 3) = 2""")
            .holds("a player without possible placement skips, and the other one goes on", Games.twoWorkersStuck(8) + """
                play(1, 1) = 1; move(29, 1) = 0; move(29, 2) = NONE; move(29, 3) = 0; inTurn() = 1; player(0, 2) = 0;
                play(2, 1) = 1;
                move(29, 1) = 1; round() = 8""")
            .holds("a skip that ends the game", Games.stuckInRoundThree(3)
                + "play(2, 10) = 1; inTurn() = NONE; move(24, 2) = NONE");
        Sentence.of(promise, "It ends after a number of placements and skips, or when the game is over.")
            .holds("1, and 10 that end two rounds and a half", """
                play(1, 1) = 1; moves() = 1; play(1, 9) = 9; moves() = 10; newGame(4, 12) = any; play(2, 10) = 10;
                moves() = 10""")
            .holds("just the moves that the game has",
                "newGame(2, 1) = 0; play(1, 3) = 3; inTurn() = 1; play(1, 1) = 1; inTurn() = NONE")
            .holds("one more than the game has",
                "newGame(2, 1) = 0; play(1, 5) = 4; inTurn() = NONE; moves() = 4; round() = 2")
            .holds("the game is over before", Games.OVER
                + "play(1, 1) = 0; play(2, 10) = 0; moves() = 4; inTurn() = NONE");
        Sentence.of(promise, "Undoable.")
            .holds("ten moves are one state",
                "digest() = any; play(2, 10) = 10; undo() = 0; digest() = same; moves() = 0")
            .holds("no move is a state too", Games.OVER
                + "play(1, 10) = 0; undo() = 3; inTurn() = NONE; undo() = 2; inTurn() = 1")
            .holds("a skip in it is undone", Games.stuckInRoundThree(4) + """
                play(1, 2) = 2; round() = 4; undo() = 3; round() = 3; inTurn() = 0; player(0, 2) = 1; moves() = 24""");
    }

    private static void playInRange() {
        String promise = "Promise 6: play";
        Sentence.of(promise, "depth: 1 or 2")
            .holds("both", "play(1, 1) = 1; move(0, 2) = 5; undo() = 0; play(2, 1) = 1; move(0, 2) = 1")
            .refuses("0 and 3, and beyond", "", ARGUMENT, Games.calls("play(%d, 1)", 0, 3, -1, LEAST, MOST));
        Sentence.of(promise, "moves: 1 to 10")
            .holds("1 and 10", "play(1, 1) = 1; moves() = 1; play(1, 10) = 10; moves() = 11")
            .refuses("0 and 11, and beyond", "", ARGUMENT, Games.calls("play(1, %d)", 0, 11, -1, LEAST, MOST));
        Sentence.of(promise, "Returns the number of placements and skips.")
            .holds("all, some and none", "newGame(2, 1) = 0; play(1, 2) = 2; play(1, 10) = 2; play(1, 10) = 0")
            .holds("a skip counts", Games.stuckInRoundThree(4)
                + "play(1, 1) = 1; undo() = 3; play(1, 2) = 2; moves() = 26");
        Sentence.of(promise, "Throws IllegalArgumentException if an argument is out of range")
            .refuses("one or both of them", Games.QUIET_ROUND, ARGUMENT, "play(0, 1)", "play(3, 10)", "play(1, 0)",
                "play(2, 11)", "play(0, 0)",
                "play(3, 11)", "play(2147483647, -2147483648)")
            .refuses("the game is over", Games.OVER, ARGUMENT, "play(0, 1)", "play(3, 1)", "play(1, 0)", "play(1, 11)");
    }
}
