/** The sentences of "Terms" on score, search, undo and exceptions, and the one on 512 calls. */
final class RulesSentences {
    private static final String INDEX = "IndexOutOfBoundsException";
    private static final String ARGUMENT = "IllegalArgumentException";
    private static final String STATE = "IllegalStateException";

    private RulesSentences() {
    }

    static void test() {
        calls();
        score();
        rank();
        sequences();
        results();
        bestOfSeveral();
        undo();
        exceptions();
        constants();
    }

    private static void calls() {
        Sentence.of("What it is",
            "An object is used for at most 512 calls after it has been made; what later calls answer is free.")
            .holds("512 calls that change the game", "place(0, 0) = 1; undo() = 0;".repeat(254) + """
                newGame(4, 12) = 0; place(4, 0) = 1; goods(0, 4) = 4; undo() = 1""")
            .holds("512 calls that search", "bestPlacement(3, 0) = 100; bestScore(3) = 10;".repeat(256));
    }

    private static void score() {
        Sentence.of("SCORE",
            "The score of a player is 3 for each member of the family, 1 for each room, 1 for each sheep but at most 5, "
                + "1 for each two grain (rounded down), and the points of the buildings, minus 3 for each begging token.")
            .holds("two members and two rooms", "score(0, 6) = 8; score(0, 0) = 6; score(0, 1) = 2")
            .holds("1, 5 and 6 sheep", """
                newGame(2, 12) = 0;
                place(2, 0) = 1; place(4, 0) = 0; place(10, 0) = 1; place(4, 0) = 0;
                place(3, 0) = 1; place(4, 0) = 0; place(2, 0) = 1; place(4, 0) = 0;
                place(2, 0) = 1; place(4, 0) = 0; place(10, 0) = 1; place(4, 0) = 0;
                place(8, 3) = 1; place(4, 0) = 0; place(5, 0) = 1; goods(0, 3) = 4; score(0, 2) = 4; place(4, 0) = 0;
                goods(0, 3) = 5; score(0, 2) = 5; place(5, 0) = 1; goods(0, 3) = 6; score(0, 2) = 5; score(0, 6) = 13;
                newGame(2, 12) = 4; place(5, 0) = 1; goods(0, 3) = 1; score(0, 2) = 1; score(0, 6) = 9""")
            .holds("0, 1, 2, 3 and 4 grain", """
                score(0, 3) = 0; place(2, 0) = 1; goods(0, 2) = 1; score(0, 3) = 0; place(4, 0) = 0; place(10, 0) = 1;
                goods(0, 2) = 2;
                score(0, 3) = 1; place(4, 0) = 0; place(4, 0) = 1; place(4, 0) = 0; place(2, 0) = 1; goods(0, 2) = 3;
                score(0, 3) = 1;
                place(0, 0) = 0; place(2, 0) = 1; goods(0, 2) = 4; score(0, 3) = 2; score(0, 6) = 10""")
            .holds("more begging tokens than points", Games.FIVE_ROOMS + """
                player(0, 4) = 6; score(0, 5) = -18; score(0, 0) = 6; score(0, 1) = 5; score(0, 6) = -7""")
            .holds("all parts at once", Games.FIVE_MEMBERS + """
                score(0, 0) = 15; score(0, 1) = 5; score(0, 2) = 5; score(0, 3) = 1; score(0, 4) = 1; score(0, 5) = -30;
                score(0, 6) = -3""")
            .holds("all eight buildings", """
                newGame(2, 12) = 0;
                place(0, 0) = 1; place(4, 0) = 0; place(1, 0) = 1; place(4, 0) = 0;
                place(0, 0) = 1; place(4, 0) = 0; place(1, 0) = 1; place(4, 0) = 0;
                place(0, 0) = 1; place(4, 0) = 0; place(1, 0) = 1; place(4, 0) = 0; score(0, 4) = 0;
                place(9, 0) = 1; score(0, 4) = 2; place(4, 0) = 0; place(1, 0) = 1; place(4, 0) = 0;
                place(9, 1) = 1; score(0, 4) = 4; place(4, 0) = 0; place(9, 2) = 1; score(0, 4) = 5; place(4, 0) = 0;
                place(9, 3) = 1; score(0, 4) = 6; place(4, 0) = 0; place(9, 4) = 1; score(0, 4) = 7; place(4, 0) = 0;
                place(9, 5) = 1; score(0, 4) = 9; place(4, 0) = 0; place(9, 6) = 1; score(0, 4) = 10; place(4, 0) = 0;
                place(9, 7) = 1; score(0, 4) = 11""");
    }

    private static void rank() {
        Sentence.of("SCORE",
            "The rank of a player is 1 plus the number of players with a greater score, or with the same score and "
                + "more food.")
            .holds("the same score and more food", "score(0, 6) = 8; score(1, 6) = 8; rank(0) = 2; rank(1) = 1")
            .holds("the same score and the same food",
                "place(3, 0) = 1; goods(0, 4) = 3; goods(1, 4) = 3; rank(0) = 1; rank(1) = 1")
            .holds("a greater score and less food",
                "place(5, 0) = 1; score(0, 6) = 9; goods(0, 4) = 2; rank(0) = 1; rank(1) = 2")
            .holds("the last of four, behind three that are the same",
                "newGame(4, 1) = 0; rank(0) = 4; rank(1) = 1; rank(2) = 1; rank(3) = 1")
            .holds("four that are not the same", """
                newGame(4, 6) = 0; place(0, 0) = 1; place(5, 0) = 2; place(4, 0) = 3; place(3, 0) = 0;
                # the scores are 8, 9, 8 and 8, the food is 2, 3, 5 and 4
                rank(0) = 4; rank(1) = 1; rank(2) = 2; rank(3) = 3""");
    }

    private static void sequences() {
        Sentence.of("SEARCH",
            "For a depth d, the sequences of placements of the player in turn are considered in which the player places "
                + "up to d free workers one after the other, and nobody else places any; "
                    + "a sequence is shorter than d only if the "
                + "player has no more free workers or no possible placement.")
            .holds("depth 1 and depth 2 of two free workers", """
                bestScore(1) = 9; bestPlacement(1, 0) = 500; bestScore(2) = 10; bestPlacement(2, 0) = 100;
                bestPlacement(2, 1) = 905""")
            .holds("depth 3 of two free workers", """
                bestScore(3) = 10; bestPlacement(3, 0) = 100; bestPlacement(3, 1) = 905; bestPlacement(3, 2) = NONE""")
            .holds("depth 2 and 3 of one free worker", """
                place(1, 0) = 1; place(4, 0) = 0; player(0, 2) = 1; bestScore(1) = 10; bestScore(2) = 10;
                bestScore(3) = 10;
                bestPlacement(1, 0) = 905; bestPlacement(2, 0) = 905; bestPlacement(2, 1) = NONE;
                bestPlacement(3, 1) = NONE;
                bestPlacement(3, 2) = NONE""")
            .holds("a new member is no free worker of the sequence", Games.BUNKHOUSE + """
                place(7, 0) = 1; place(4, 0) = 0; player(0, 2) = 1; bestPlacement(2, 0) = 500;
                bestPlacement(2, 1) = NONE""")
            .holds("no possible placement behind the first one", Games.onePlacementLeft(8) + """
                player(0, 2) = 2; possible() = 1; option(0) = 200; bestPlacement(1, 0) = 200;
                bestPlacement(2, 0) = 200; bestPlacement(2, 1) = NONE; bestPlacement(3, 0) = 200;
                bestPlacement(3, 1) = NONE;
                bestPlacement(3, 2) = NONE;
                # 12 for the members, 3 for the rooms, 1 for the sheep, 1 for the bunkhouse, 33 for begging
                bestScore(1) = -16; bestScore(2) = -16; bestScore(3) = -16""")
            .holds("a space that the sequence has filled is not possible again", """
                newGame(2, 1) = 0; bestScore(2) = 9; bestPlacement(2, 0) = 400; bestPlacement(2, 1) = 500""");
    }

    private static void results() {
        Sentence.of("SEARCH",
            "The result of a sequence is the score of the player after the end of the round as described above (for this "
                + "player; no next round starts).")
            .holds("the last round feeds: labour brings the 2 food that are missing, and a sheep comes later",
                "newGame(2, 1) = 0; score(0, 6) = 8; missing(0) = 2; bestScore(1) = 8; bestPlacement(1, 0) = 400")
            .holds("a round without feeding", "newGame(2, 2) = 0; bestScore(1) = 9; bestPlacement(1, 0) = 500")
            .holds("round 2 feeds, and two sheep become three", """
                place(5, 0) = 1; place(4, 0) = 0; place(4, 0) = 1; place(3, 0) = 0; goods(0, 4) = 4;
                bestScore(1) = 11; bestPlacement(1, 0) = 500""")
            .holds("the fourth grain spoils, and a sheep is better", """
                place(2, 0) = 1; place(4, 0) = 0; place(10, 0) = 1; place(4, 0) = 0;
                place(4, 0) = 1; place(4, 0) = 0; place(2, 0) = 1; place(5, 0) = 0; goods(0, 2) = 3; space(5, 0) = 1;
                score(0, 6) = 9;
                bestScore(1) = 10; bestPlacement(1, 0) = 500""")
            .holds("a member who came in this round needs 1 food: 1 of 5 is missing behind the lake", Games.BUNKHOUSE + """
                place(7, 0) = 1; place(5, 0) = 0; need(0) = 5; goods(0, 4) = 2; space(3, 0) = 2; score(0, 6) = 12;
                bestScore(1) = 9; bestPlacement(1, 0) = 300""")
            .holds("a search changes nothing", """
                digest() = any; bestScore(1) = 9; bestScore(2) = 10; bestScore(3) = 10; bestPlacement(3, 2) = NONE;
                digest() = same;
                player(0, 2) = 2; inTurn() = 0; round() = 1; moves() = 0""");
    }

    private static void bestOfSeveral() {
        Sentence.of("SEARCH",
            "The best sequence is the one with the greatest result; "
            + "of several the one that is lexicographically first by "
                + "100 * space + choice of its placements.")
            .holds("the sheep of the pasture comes ahead of the one of the market", """
                bestScore(1) = 9; bestPlacement(1, 0) = 500; place(4, 0) = 1; place(5, 0) = 0; bestScore(1) = 9;
                bestPlacement(1, 0) = 1123""")
            .holds("the first placement decides: clay and the well come ahead of two sheep",
                "bestPlacement(2, 0) = 100; bestPlacement(2, 1) = 905")
            .holds("the second placement decides: of the field and one more grain or a sheep", """
                newGame(4, 6) = 0; place(1, 0) = 1; place(5, 0) = 2; place(0, 0) = 3; bestScore(2) = 9;
                bestPlacement(2, 0) = 200; bestPlacement(2, 1) = 1000""")
            .holds("the greatest result comes ahead of the first number",
                "bestScore(1) = 9; bestPlacement(1, 0) = 500; option(0) = 0")
            .holds("the choice decides: three buildings are as good as a sheep, and the storehouse comes first", """
                place(0, 0) = 1; place(5, 0) = 0; goods(0, 0) = 3; bestScore(1) = 9; bestPlacement(1, 0) = 902""");
    }

    private static void undo() {
        Sentence.of("UNDO",
            "Every method that is marked \"undoable\" saves the whole state on an undo stack when it ends normally, also if it "
                + "changes nothing.")
            .holds("newGame, place and play save one state each", """
                newGame(2, 6) = 0; place(0, 0) = 1; play(1, 3) = 3; undo() = 2; undo() = 1; undo() = 0""")
            .holds("skip saves one state", Games.stuckInRoundThree(4) + """
                skip() = 1; undo() = 3; inTurn() = 0; player(0, 2) = 1; skip() = 1; undo() = 3; inTurn() = 0;
                undo() = 2; inTurn() = 3""")
            .holds("a new game that is like the one before",
                "newGame(2, 6) = 0; newGame(2, 6) = 0; undo() = 1; undo() = 0")
            .holds("play in a game that is over", Games.OVER + """
                play(1, 1) = 0; undo() = 3; inTurn() = NONE; undo() = 2; inTurn() = 1; undo() = 1; undo() = 0""")
            .holds("the whole state", Games.twoWorkersStuck(8) + """
                digest() = any; newGame(2, 1) = 6; undo() = 3; players() = 4; round() = 7; inTurn() = 0;
                startPlayer() = 3; moves() = 30;
                move(29, 2) = 10; move(29, 1) = 3; player(0, 0) = 4; player(0, 1) = 0; player(0, 2) = 2;
                player(0, 3) = 3;
                player(0, 4) = 11; player(0, 5) = 16; goods(0, 3) = 1; goods(0, 4) = 1; goods(1, 0) = 3; owner(4) = 0;
                space(4, 1) = 2; space(4, 3) = 2; space(10, 3) = 3; space(0, 0) = 0; possible() = 0""")
            .refuses("nothing is saved by a call that throws", "", STATE, "place(7, 0)", "skip()", "undo()")
            .refuses("nothing is saved by a call whose arguments are out of range", "", ARGUMENT, "newGame(1, 1)",
                "play(3, 1)")
            .refuses("nothing is saved by the other methods", """
                reason(0, 0) = 0; players() = 2; round() = 1; inTurn() = 0; startPlayer() = 0; goods(0, 0) = 0;
                player(0, 0) = 2;
                owner(0) = NONE; space(0, 0) = 3; cost(0, 0, 0) = 0; need(0) = 4; missing(0) = 2; score(0, 0) = 6;
                rank(0) = 2;
                possible() = 11; option(0) = 0; bestScore(1) = 9; bestPlacement(1, 0) = 500; moves() = 0;
                digest() = any""",
                STATE, "undo()");
        Sentence.of("UNDO", "The saved state is the one from before the call.")
            .holds("place",
                "digest() = any; place(0, 0) = 1; undo() = 0; digest() = same; goods(0, 0) = 0; inTurn() = 0")
            .holds("place that ends a round", """
                place(0, 0) = 1; place(4, 0) = 0; place(2, 0) = 1; place(10, 0) = 1; round() = 2; undo() = 3;
                round() = 1; inTurn() = 1;
                startPlayer() = 0; space(0, 0) = 0; space(0, 3) = 0; player(0, 2) = 0; player(1, 2) = 1;
                goods(1, 2) = 0""")
            .holds("place that ends the game", Games.OVER + """
                undo() = 3; round() = 1; inTurn() = 1; player(1, 2) = 1; player(0, 4) = 0; goods(0, 4) = 2;
                goods(0, 2) = 1""")
            .holds("play of ten moves",
                "place(0, 0) = 1; digest() = any; play(1, 10) = 10; undo() = 1; digest() = same; moves() = 1")
            .holds("newGame",
                "place(0, 0) = 1; digest() = any; newGame(4, 1) = 0; undo() = 1; digest() = same; players() = 2")
            .holds("skip", Games.stuckInRoundThree(4) + """
                skip() = 1; round() = 4; undo() = 3; round() = 3; inTurn() = 0; player(0, 2) = 1; moves() = 24""")
            .holds("the number of rounds is part of it", "newGame(2, 1) = 0; newGame(2, 12) = 0; undo() = 1;"
                + Games.QUIET_LAST_ROUND);
        Sentence.of("UNDO", "The stack keeps the latest 4 saved states and drops older ones.")
            .holds("three saved states", """
                place(0, 0) = 1; place(1, 0) = 0; place(2, 0) = 1; undo() = 2; undo() = 1; undo() = 0; moves() = 0""")
            .holds("four saved states", """
                place(0, 0) = 1; place(1, 0) = 0; place(2, 0) = 1; place(3, 0) = 0; undo() = 3; undo() = 2; undo() = 1;
                undo() = 0;
                moves() = 0""")
            .holds("five saved states: the first one is dropped", """
                place(0, 0) = 1; place(1, 0) = 0; place(2, 0) = 1; place(3, 0) = 0; place(4, 0) = 1;
                undo() = 3; moves() = 4; undo() = 2; moves() = 3; undo() = 1; moves() = 2; undo() = 0; moves() = 1;
                goods(0, 0) = 3""")
            .holds("ten saved states, some of them restored between", """
                place(0, 0) = 1; place(1, 0) = 0; place(2, 0) = 1; place(3, 0) = 0; place(4, 0) = 1; place(4, 0) = 0;
                undo() = 3; undo() = 2; moves() = 4; place(5, 0) = 1; place(0, 0) = 0; place(1, 0) = 1; moves() = 7;
                undo() = 3; moves() = 6; undo() = 2; moves() = 5; undo() = 1; moves() = 4; undo() = 0; moves() = 3;
                round() = 1""")
            .refuses("a fifth undo", """
                place(0, 0) = 1; place(1, 0) = 0; place(2, 0) = 1; place(3, 0) = 0; place(4, 0) = 1;
                undo() = 3; undo() = 2; undo() = 1; undo() = 0""", STATE, "undo()");
    }

    private static void exceptions() {
        String[] badIndex = {"reason(12, 0)", "place(12, 0)", "goods(4, 0)", "player(4, 0)", "owner(8)", "space(12, 0)",
            "cost(4, 0, 0)", "need(4)", "missing(4)", "score(4, 0)", "rank(4)", "option(40)", "move(30, 0)"};
        String[] badArgument = {"newGame(5, 1)", "newGame(2, 13)", "play(3, 1)", "play(1, 11)", "goods(0, 5)",
            "player(0, 6)",
            "space(0, 4)", "cost(0, 8, 0)", "cost(0, 0, 2)", "score(0, 7)", "bestScore(4)", "bestPlacement(4, 0)",
            "bestPlacement(3, 3)"};
        Sentence.of("EXCEPTIONS", "A call that throws an exception changes nothing.")
            .refuses("a new object", "", INDEX, badIndex)
            .refuses("a new object", "", ARGUMENT, badArgument)
            .refuses("a new object", "", STATE, "place(6, 0)", "skip()", "undo()")
            .refuses("four saved states, thirty moves", Games.twoWorkersStuck(8), INDEX, badIndex)
            .refuses("four saved states, thirty moves", Games.twoWorkersStuck(8), ARGUMENT, badArgument)
            .refuses("four saved states, thirty moves", Games.twoWorkersStuck(8), STATE, "place(0, 0)", "place(11, 20)")
            .refuses("four saved states, a placement is possible", Games.FIVE_MEMBERS, STATE, "place(6, 0)", "skip()")
            .refuses("the game is over", Games.OVER, INDEX, badIndex)
            .refuses("the game is over", Games.OVER, ARGUMENT, badArgument)
            .refuses("the game is over", Games.OVER, STATE, "place(1, 0)", "skip()")
            .refuses("all states have been restored", "place(0, 0) = 1; place(4, 0) = 0; undo() = 1; undo() = 0",
                STATE, "undo()",
                "skip()");
        Sentence.of("EXCEPTIONS", "If several exceptions of a method apply, the one that is listed first is thrown.")
            .refuses("place: no such space, and the placement is impossible", "", INDEX, "place(12, 0)",
                "place(-1, 99)")
            .refuses("place: no such space, and the game is over", Games.OVER, INDEX, "place(12, 0)", "place(-1, 0)")
            .refuses("goods: no such player, and no such good", "", INDEX, "goods(2, 5)", "goods(-1, -1)",
                "goods(2, -1)", "goods(-1, 5)")
            .refuses("player: no such player, and what", "", INDEX, "player(2, 6)", "player(-1, -1)", "player(2, -1)",
                "player(-1, 6)")
            .refuses("space: no such space, and what", "", INDEX, "space(12, 4)", "space(-1, -1)", "space(12, -1)",
                "space(-1, 4)")
            .refuses("cost: no such player, and building or good", "", INDEX, "cost(2, 8, 0)", "cost(2, -2, 0)",
                "cost(-1, 0, 2)",
                "cost(-1, 0, -1)", "cost(2, 8, 2)")
            .refuses("score: no such player, and part", "", INDEX, "score(2, 7)", "score(-1, -1)", "score(2, -1)",
                "score(-1, 7)")
            .refuses("move: no such one, and what", "", INDEX, "move(0, 4)", "move(-1, -1)", "move(0, -1)")
            .refuses("move: no such one, and what, of one move", "place(0, 0) = 1", INDEX, "move(1, 4)",
                "move(-1, -1)");
        Sentence.of("EXCEPTIONS", "NONE is returned only if no exception applies.")
            .holds("NONE for the same calls with arguments in range", Games.OVER + """
                bestScore(3) = NONE; bestPlacement(3, 2) = NONE; owner(7) = NONE; space(11, 3) = NONE;
                inTurn() = NONE""")
            .refuses("the search of a game that is over", Games.OVER, ARGUMENT, "bestScore(0)", "bestScore(4)",
                "bestPlacement(0, 0)",
                "bestPlacement(4, 0)", "bestPlacement(1, 1)", "bestPlacement(3, 3)", "bestPlacement(3, -1)")
            .refuses("the search without a possible placement", Games.twoWorkersStuck(8), ARGUMENT, "bestScore(0)",
                "bestScore(4)",
                "bestPlacement(2, 2)")
            .refuses("what nobody has, and what is not occupied", Games.OVER, INDEX, "owner(8)", "owner(-1)",
                "space(12, 3)",
                "place(12, 0)")
            .refuses("a placement in a game that is over", Games.OVER, STATE, "place(1, 0)", "skip()");
    }

    private static void constants() {
        Sentence.of("EXCEPTIONS",
            "The constants: NONE = -1, WOOD = 0, CLAY = 1, GRAIN = 2, SHEEP = 3, FOOD = 4: Returned where there is no "
                + "such value.")
            .holds("-1 where there is no such value", Games.OVER + """
                inTurn() = -1; owner(0) = -1; space(1, 3) = -1; bestScore(1) = -1; bestPlacement(1, 0) = -1""")
            .holds("-1 for the space of a skip, and for the room", Games.stuckInRoundThree(4) + """
                skip() = 1; move(24, 2) = -1; cost(1, -1, 0) = 4""");
        Script.check("the constants have their values", VillageBoard.NONE == -1 && VillageBoard.WOOD == 0
            && VillageBoard.CLAY == 1 && VillageBoard.GRAIN == 2 && VillageBoard.SHEEP == 3 && VillageBoard.FOOD == 4);
    }
}
