/** The sentences of "Terms" on goods, players, buildings and rounds. */
final class TermsSentences {
    private static final String PLAYERS = "GOODS AND PLAYERS";
    private static final String BUILDINGS = "BUILDINGS";
    private static final String ROUNDS = "ROUNDS";

    private TermsSentences() {
    }

    static void test() {
        goodsAndPlayers();
        ovenAndSawmill();
        storehouseAndSmokehouse();
        bunkhouseAndWell();
        carpenterAndKiln();
        rounds();
        turns();
        feeding();
        breedingAndSpoilage();
        theEnd();
    }

    private static void goodsAndPlayers() {
        Sentence.of(PLAYERS, "The goods are WOOD (0), CLAY (1), GRAIN (2), SHEEP (3) and FOOD (4).")
            .holds("each space gives its good", """
                newGame(4, 6) = 0; place(0, 0) = 1; goods(0, 0) = 3; place(1, 0) = 2; goods(1, 1) = 2;
                place(2, 0) = 3; goods(2, 2) = 1; place(5, 0) = 0; goods(3, 3) = 1; place(3, 0) = 1; goods(0, 4) = 3""")
            .refuses("below the first and above the last good", "", "IllegalArgumentException",
                "goods(0, -1)", "goods(0, 5)");
        Sentence.of(PLAYERS, "Players are numbered from 0.")
            .holds("the first and the last player", """
                goods(0, 4) = 2; goods(1, 4) = 3; newGame(3, 1) = 0; goods(0, 4) = 2; goods(2, 4) = 3;
                newGame(4, 1) = 0; goods(0, 4) = 2; goods(3, 4) = 3""")
            .refuses("two players", "", "IndexOutOfBoundsException", "need(-1)", "need(2)")
            .refuses("three players", "newGame(3, 1) = 0", "IndexOutOfBoundsException", "need(-1)", "need(3)")
            .refuses("four players", "newGame(4, 1) = 0", "IndexOutOfBoundsException", "need(-1)", "need(4)")
            .refuses("fewer players than in the game before", "newGame(4, 1) = 0; newGame(2, 1) = 0",
                "IndexOutOfBoundsException", "need(2)", "need(3)");
        Sentence.of(PLAYERS, "A player has an amount of each good (0 or more), a family (2 to 5), rooms (2 to 5), "
                + "begging tokens, and buildings.")
            .holds("the last of a good is paid, and 0 is left", """
                place(11, 20) = 1; goods(0, 4) = 0; goods(0, 0) = 1; place(4, 0) = 0; reason(11, 20) = 5""")
            .holds("hunger takes no good below 0, no member and no room",
                Games.QUIET_ROUND + "place(0, 0) = 1; place(4, 0) = 0; place(1, 0) = 1; place(4, 0) = 0;" + """
                # 2 food and 1 grain for 4
                goods(0, 4) = 0; goods(0, 2) = 0; goods(0, 3) = 0; player(0, 0) = 2; player(0, 3) = 2;
                player(0, 4) = 1""")
            .holds("five rooms and five members are the most", Games.FIVE_MEMBERS + """
                player(0, 0) = 5; player(0, 3) = 5; reason(6, 0) = 5; reason(7, 0) = 5""")
            .refuses("a sixth room, and a sixth member", Games.FIVE_MEMBERS, "IllegalStateException",
                "place(6, 0)", "place(7, 0)");
        Sentence.of(PLAYERS,
            "At the beginning of a game each player has a family of 2, 2 rooms, no other good than food "
                + "(player 0 has 2, the others have 3), no begging tokens and no buildings, and player 0 has the start marker.")
            .holds("a new object", "startPlayer() = 0;" + beginningOf(0, 2) + beginningOf(1, 3))
            .holds("a game of four players", "newGame(4, 1) = 0; startPlayer() = 0;"
                + beginningOf(0, 2) + beginningOf(1, 3) + beginningOf(2, 3) + beginningOf(3, 3))
            .holds("a game behind another one", Games.twoWorkersStuck(8)
                + "startPlayer() = 3; newGame(4, 8) = 6; startPlayer() = 0;"
                + beginningOf(0, 2) + beginningOf(1, 3) + beginningOf(2, 3) + beginningOf(3, 3)
                + Games.each("owner(%d) = NONE", 0, 1, 2, 3, 4, 5, 6, 7));
    }

    private static String beginningOf(int player, int food) {
        return ("player(P, 0) = 2; player(P, 3) = 2; goods(P, 0) = 0; goods(P, 1) = 0; goods(P, 2) = 0; "
            + "goods(P, 3) = 0;"
            + "goods(P, 4) = F; player(P, 4) = 0; player(P, 5) = 0;").replace("P", "" + player).replace("F", "" + food);
    }

    private static void ovenAndSawmill() {
        Sentence.of(BUILDINGS,
            "There is one of each building; the first number is the cost in wood, the second one the cost "
                + "in clay, the third one the points:")
            .holds("nobody can build what a player has, the owner neither", """
                place(0, 0) = 1; place(11, 20) = 0; place(9, 6) = 1; owner(6) = 0;
                goods(1, 0) = 1; reason(9, 6) = 5; place(4, 0) = 0; goods(0, 0) = 2; reason(9, 6) = 5""")
            .refuses("a building of another player", "place(0, 0) = 1; place(11, 20) = 0; place(9, 6) = 1",
                "IllegalStateException", "place(9, 6)")
            .refuses("a building of one's own", "place(0, 0) = 1; place(11, 20) = 0; place(9, 6) = 1; place(4, 0) = 0",
                "IllegalStateException", "place(9, 6)");
        Sentence.of(BUILDINGS, "OVEN (0): 0, 3, 2.")
            .holds("2 clay are one too few, and 3 are enough", """
                place(1, 0) = 1; place(4, 0) = 0; goods(0, 1) = 2; reason(9, 0) = 5; place(11, 21) = 1; place(4, 0) = 0;
                goods(0, 1) = 3; goods(0, 0) = 0; reason(9, 0) = 0; place(9, 0) = 1; goods(0, 1) = 0; goods(0, 0) = 0;
                owner(0) = 0; score(0, 4) = 2""")
            .refuses("2 clay", "place(1, 0) = 1; place(4, 0) = 0", "IllegalStateException", "place(9, 0)");
        Sentence.of(BUILDINGS, "The mill gives 5 food for each grain instead of 3.")
            .holds("1 and 3 grain of the owner, 1 grain of another player", """
                place(1, 0) = 1; place(4, 0) = 0; place(11, 21) = 1; place(4, 0) = 0;
                place(9, 0) = 1; place(4, 0) = 0; place(2, 0) = 1; place(3, 0) = 0; goods(0, 4) = 0; goods(0, 2) = 0;
                place(2, 0) = 1; place(10, 0) = 0; place(8, 1) = 1; goods(0, 4) = 5; goods(0, 2) = 0; place(4, 0) = 1;
                # round 4 begins with player 1, who has 9 food
                goods(1, 4) = 9; place(8, 1) = 0; goods(1, 4) = 12; goods(1, 2) = 0;
                place(2, 0) = 1; place(4, 0) = 0; place(10, 0) = 0;
                goods(0, 4) = 1; goods(0, 2) = 2; place(2, 0) = 1; place(4, 0) = 0; place(8, 3) = 1;
                goods(0, 4) = 16; goods(0, 2) = 0""");
        Sentence.of(BUILDINGS, "SAWMILL (1): 2, 1, 2.")
            .holds("no clay, or 1 wood, is one too few; 2 wood and 1 clay are enough", """
                place(0, 0) = 1; place(4, 0) = 0; goods(0, 0) = 3; goods(0, 1) = 0; reason(9, 1) = 5;
                place(11, 1) = 1; place(4, 0) = 0; goods(0, 0) = 1; goods(0, 1) = 1; reason(9, 1) = 5;
                place(11, 20) = 1; place(4, 0) = 0; goods(0, 0) = 2; goods(0, 1) = 1; reason(9, 1) = 0;
                place(9, 1) = 1; goods(0, 0) = 0; goods(0, 1) = 0; owner(1) = 0; score(0, 4) = 2""")
            .refuses("no clay", "place(0, 0) = 1; place(4, 0) = 0", "IllegalStateException", "place(9, 1)")
            .refuses("1 wood", "place(0, 0) = 1; place(4, 0) = 0; place(11, 1) = 1; place(4, 0) = 0",
                "IllegalStateException", "place(9, 1)");
        Sentence.of(BUILDINGS, "The forest gives 1 wood more.")
            .holds("to the owner of the sawmill alone", """
                place(0, 0) = 1; place(4, 0) = 0; place(11, 1) = 1; place(4, 0) = 0;
                place(11, 20) = 1; place(4, 0) = 0; place(9, 1) = 1; place(4, 0) = 0;
                space(0, 0) = 6; place(0, 0) = 1; goods(0, 0) = 7; space(0, 0) = 0; place(4, 0) = 0; place(4, 0) = 1;
                place(10, 0) = 1; space(0, 0) = 3; place(0, 0) = 0; goods(1, 0) = 3""");
    }

    private static void storehouseAndSmokehouse() {
        Sentence.of(BUILDINGS, "STOREHOUSE (2): 2, 0, 1.")
            .holds("1 wood is one too few, and 2 are enough", """
                place(11, 20) = 1; place(4, 0) = 0; goods(0, 0) = 1; reason(9, 2) = 5; place(4, 0) = 1; place(2, 0) = 0;
                place(11, 20) = 1; place(4, 0) = 0; goods(0, 0) = 2; goods(0, 1) = 0; reason(9, 2) = 0;
                place(9, 2) = 1; goods(0, 0) = 0; goods(0, 1) = 0; owner(2) = 0; score(0, 4) = 1""")
            .refuses("1 wood", "place(11, 20) = 1; place(4, 0) = 0", "IllegalStateException", "place(9, 2)");
        Sentence.of(BUILDINGS, "Grain does not spoil.")
            .holds("5 grain of the owner", """
                place(0, 0) = 1; place(4, 0) = 0; place(9, 2) = 1; place(4, 0) = 0;
                place(3, 0) = 1; place(4, 0) = 0; place(2, 0) = 1; place(4, 0) = 0; goods(0, 2) = 1; goods(0, 4) = 0;
                place(2, 0) = 1; place(4, 0) = 0; place(10, 0) = 1; place(4, 0) = 0; goods(0, 2) = 3;
                place(4, 0) = 1; place(4, 0) = 0; place(3, 0) = 1; place(1, 0) = 0; goods(0, 2) = 3; goods(0, 4) = 0;
                place(2, 0) = 1; place(4, 0) = 0; place(10, 0) = 1; place(4, 0) = 0; round() = 6; goods(0, 2) = 5""")
            .holds("4 grain of another player do", """
                place(2, 0) = 1; place(0, 0) = 0; place(10, 0) = 1; place(9, 2) = 0; owner(2) = 1;
                place(4, 0) = 1; place(4, 0) = 0; place(2, 0) = 1; place(3, 0) = 0; goods(0, 2) = 3;
                place(2, 0) = 1; goods(0, 2) = 4; place(4, 0) = 0; place(4, 0) = 1; place(1, 0) = 0;
                goods(0, 2) = 3""");
        Sentence.of(BUILDINGS, "SMOKEHOUSE (3): 1, 1, 1.")
            .holds("no clay, or no wood, is one too few; 1 of each is enough", """
                place(11, 20) = 1; place(11, 21) = 0; goods(0, 0) = 1; goods(0, 1) = 0; reason(9, 3) = 5;
                place(4, 0) = 1;
                goods(1, 0) = 0; goods(1, 1) = 1; reason(9, 3) = 5; place(4, 0) = 0;
                place(11, 21) = 1; place(2, 0) = 0; goods(0, 0) = 1; goods(0, 1) = 1; reason(9, 3) = 0;
                place(9, 3) = 1; goods(0, 0) = 0; goods(0, 1) = 0; owner(3) = 0; score(0, 4) = 1""")
            .refuses("no clay", "place(11, 20) = 1; place(11, 21) = 0", "IllegalStateException", "place(9, 3)")
            .refuses("no wood", "place(11, 20) = 1; place(11, 21) = 0; place(4, 0) = 1", "IllegalStateException",
                "place(9, 3)");
        Sentence.of(BUILDINGS, "A sheep gives 4 food at feeding instead of 2.")
            .holds("4 food are missing, and one of two sheep is enough", """
                place(11, 20) = 1; place(4, 0) = 0; place(1, 0) = 1; place(4, 0) = 0;
                place(9, 3) = 1; place(4, 0) = 0; place(5, 0) = 1; goods(0, 3) = 2; goods(0, 4) = 0; missing(0) = 0;
                place(4, 0) = 0; goods(0, 3) = 1; goods(0, 4) = 0; player(0, 4) = 0""")
            .holds("1 food is missing, and 3 of 4 are kept", """
                place(4, 0) = 1; place(0, 0) = 0; place(4, 0) = 1; place(1, 0) = 0;
                place(4, 0) = 1; place(9, 3) = 0; place(4, 0) = 1; goods(1, 4) = 3; place(5, 0) = 0;
                goods(1, 3) = 1; goods(1, 4) = 3; player(1, 4) = 0""")
            .holds("2 food of a sheep of another player", """
                place(11, 20) = 1; place(0, 0) = 0; place(4, 0) = 1; place(1, 0) = 0; place(5, 0) = 1; place(9, 3) = 0;
                # player 0 has 2 food and 2 sheep, and 4 food are needed
                goods(0, 3) = 2; goods(0, 4) = 2; place(0, 0) = 1; place(4, 0) = 0; goods(0, 3) = 1; goods(0, 4) = 0;
                player(0, 4) = 0""");
    }

    private static void bunkhouseAndWell() {
        Sentence.of(BUILDINGS, "BUNKHOUSE (4): 3, 0, 1.")
            .holds("3 wood are enough", """
                place(0, 0) = 1; place(4, 0) = 0; goods(0, 0) = 3; reason(9, 4) = 0; place(9, 4) = 1;
                goods(0, 0) = 0; goods(0, 1) = 0; owner(4) = 0; score(0, 4) = 1""")
            .holds("2 wood are one too few", """
                place(11, 20) = 1; place(4, 0) = 0; place(4, 0) = 1; place(2, 0) = 0; place(11, 20) = 1;
                place(4, 0) = 0;
                goods(0, 0) = 2; reason(9, 4) = 5""")
            .refuses("2 wood", """
                place(11, 20) = 1; place(4, 0) = 0; place(4, 0) = 1; place(2, 0) = 0; place(11, 20) = 1;
                place(4, 0) = 0""",
                "IllegalStateException", "place(9, 4)");
        Sentence.of(BUILDINGS, "Counts as one more room for family growth.")
            .holds("two members in two rooms, then three; no more rooms in the score", Games.BUNKHOUSE + """
                player(0, 0) = 2; player(0, 3) = 2; score(0, 1) = 2; reason(7, 0) = 0;
                place(7, 0) = 1; player(0, 0) = 3; player(0, 3) = 2; score(0, 1) = 2;
                place(4, 0) = 0; place(4, 0) = 1; place(2, 0) = 0; reason(7, 0) = 5;
                # player 1 has two rooms and no bunkhouse
                place(2, 0) = 1; reason(7, 0) = 5""")
            .holds("three members in three rooms, then four", Games.roundSeven(8) + """
                player(0, 0) = 4; player(0, 3) = 3; reason(7, 0) = 5; place(3, 0) = 1;
                player(1, 0) = 3; player(1, 3) = 3; reason(7, 0) = 5""")
            .holds("never more than five members", Games.FIVE_MEMBERS
                + "owner(4) = 0; player(0, 0) = 5; reason(7, 0) = 5")
            .refuses("three members in two rooms",
                Games.BUNKHOUSE + "place(7, 0) = 1; place(4, 0) = 0; place(4, 0) = 1; place(2, 0) = 0;",
                "IllegalStateException", "place(7, 0)");
        Sentence.of(BUILDINGS, "WELL (5): 0, 2, 2.")
            .holds("1 clay is one too few", "place(11, 21) = 1; place(4, 0) = 0; goods(0, 1) = 1; reason(9, 5) = 5")
            .holds("2 clay are enough", """
                place(1, 0) = 1; place(4, 0) = 0; goods(0, 1) = 2; goods(0, 0) = 0; reason(9, 5) = 0; place(9, 5) = 1;
                goods(0, 1) = 0; goods(0, 0) = 0; owner(5) = 0; score(0, 4) = 2""")
            .refuses("1 clay", "place(11, 21) = 1; place(4, 0) = 0", "IllegalStateException", "place(9, 5)");
        Sentence.of(BUILDINGS, "Gives 1 food at the start of each round.")
            .holds("not in the round in which it is built, in each later one, and not behind the last one", """
                newGame(2, 3) = 0; place(1, 0) = 1; place(4, 0) = 0; place(9, 5) = 1; goods(0, 4) = 2; place(4, 0) = 0;
                goods(0, 4) = 3; goods(1, 4) = 7; place(4, 0) = 1; place(4, 0) = 0; place(2, 0) = 1; place(3, 0) = 0;
                # 5 food less 4, and 1 more
                goods(0, 4) = 2; place(4, 0) = 1; place(4, 0) = 0; place(0, 0) = 1; place(1, 0) = NONE; goods(0, 4) = 0;
                player(0, 4) = 0""");
    }

    private static void carpenterAndKiln() {
        Sentence.of(BUILDINGS, "CARPENTER (6): 1, 0, 1.")
            .holds("no wood is one too few", "goods(0, 0) = 0; reason(9, 6) = 5")
            .holds("1 wood is enough", """
                place(11, 20) = 1; place(4, 0) = 0; goods(0, 0) = 1; goods(0, 1) = 0; reason(9, 6) = 0; place(9, 6) = 1;
                goods(0, 0) = 0; goods(0, 1) = 0; owner(6) = 0; score(0, 4) = 1""")
            .refuses("no wood", "", "IllegalStateException", "place(9, 6)");
        Sentence.of(BUILDINGS, "All buildings but this one, and rooms, cost 1 wood less, but never less than 0.")
            .holds("what the owner would pay, and what another player would", """
                place(0, 0) = 1; place(4, 0) = 0; place(9, 6) = 1;
                cost(0, NONE, 0) = 3; cost(0, 0, 0) = 0; cost(0, 1, 0) = 1; cost(0, 2, 0) = 1; cost(0, 3, 0) = 0;
                cost(0, 4, 0) = 2; cost(0, 5, 0) = 0; cost(0, 6, 0) = 1; cost(0, 7, 0) = 0;
                cost(0, NONE, 1) = 1; cost(0, 0, 1) = 3; cost(0, 1, 1) = 1; cost(0, 2, 1) = 0; cost(0, 3, 1) = 1;
                cost(0, 4, 1) = 0; cost(0, 5, 1) = 2; cost(0, 6, 1) = 0; cost(0, 7, 1) = 1;
                cost(1, NONE, 0) = 4; cost(1, 0, 0) = 0; cost(1, 1, 0) = 2; cost(1, 2, 0) = 2; cost(1, 3, 0) = 1;
                cost(1, 4, 0) = 3; cost(1, 5, 0) = 0; cost(1, 6, 0) = 1; cost(1, 7, 0) = 0""")
            .holds("it is paid so, and no wood comes back where none is due", """
                place(0, 0) = 1; place(4, 0) = 0; place(9, 6) = 1; place(4, 0) = 0;
                goods(0, 0) = 2; place(9, 4) = 1; goods(0, 0) = 0; place(4, 0) = 0; place(11, 21) = 1; place(4, 0) = 0;
                goods(0, 0) = 0; goods(0, 1) = 1; place(9, 3) = 1; goods(0, 0) = 0; goods(0, 1) = 0""")
            .holds("a building that costs no wood gives none", """
                place(0, 0) = 1; place(4, 0) = 0; place(9, 6) = 1; place(4, 0) = 0; place(1, 0) = 1; place(4, 0) = 0;
                goods(0, 0) = 2; goods(0, 1) = 4; place(9, 5) = 1; goods(0, 0) = 2; goods(0, 1) = 2""")
            .holds("a room with 3 wood", """
                place(0, 0) = 1; place(4, 0) = 0; place(9, 6) = 1; place(4, 0) = 0;
                place(9, 4) = 1; place(4, 0) = 0; place(0, 0) = 1; place(4, 0) = 0; goods(0, 0) = 3;
                place(1, 0) = 1; place(4, 0) = 0; reason(6, 0) = 0; place(6, 0) = 1; goods(0, 0) = 0;
                player(0, 3) = 3""");
        Sentence.of(BUILDINGS, "KILN (7): 0, 1, 1.")
            .holds("no clay is one too few", "goods(0, 1) = 0; reason(9, 7) = 5")
            .holds("1 clay is enough", """
                place(11, 21) = 1; place(4, 0) = 0; goods(0, 1) = 1; goods(0, 0) = 0; reason(9, 7) = 0; place(9, 7) = 1;
                goods(0, 1) = 0; goods(0, 0) = 0; owner(7) = 0; score(0, 4) = 1""")
            .refuses("no clay", "", "IllegalStateException", "place(9, 7)");
        Sentence.of(BUILDINGS, "All buildings but this one, and rooms, cost 1 clay less, but never less than 0.")
            .holds("what the owner would pay, and what another player would", """
                place(1, 0) = 1; place(4, 0) = 0; place(9, 7) = 1;
                cost(0, NONE, 1) = 0; cost(0, 0, 1) = 2; cost(0, 1, 1) = 0; cost(0, 2, 1) = 0; cost(0, 3, 1) = 0;
                cost(0, 4, 1) = 0; cost(0, 5, 1) = 1; cost(0, 6, 1) = 0; cost(0, 7, 1) = 1;
                cost(0, NONE, 0) = 4; cost(0, 0, 0) = 0; cost(0, 1, 0) = 2; cost(0, 2, 0) = 2; cost(0, 3, 0) = 1;
                cost(0, 4, 0) = 3; cost(0, 5, 0) = 0; cost(0, 6, 0) = 1; cost(0, 7, 0) = 0;
                cost(1, NONE, 1) = 1; cost(1, 0, 1) = 3; cost(1, 1, 1) = 1; cost(1, 2, 1) = 0; cost(1, 3, 1) = 1;
                cost(1, 4, 1) = 0; cost(1, 5, 1) = 2; cost(1, 6, 1) = 0; cost(1, 7, 1) = 1""")
            .holds("it is paid so, and no clay comes back where none is due", """
                place(1, 0) = 1; place(4, 0) = 0; place(9, 7) = 1; place(4, 0) = 0;
                goods(0, 1) = 1; place(9, 5) = 1; goods(0, 1) = 0; place(4, 0) = 0; place(0, 0) = 1; place(4, 0) = 0;
                goods(0, 0) = 6; place(9, 6) = 1; goods(0, 0) = 5; goods(0, 1) = 0""")
            .holds("a room without clay", """
                place(1, 0) = 1; place(4, 0) = 0; place(9, 7) = 1; place(4, 0) = 0;
                place(9, 5) = 1; place(4, 0) = 0; place(0, 0) = 1; place(4, 0) = 0;
                goods(0, 0) = 6; goods(0, 1) = 0; place(6, 0) = 1; goods(0, 0) = 2; goods(0, 1) = 0;
                player(0, 3) = 3""");
    }

    private static void rounds() {
        Sentence.of(ROUNDS, "A game has a number of rounds (1 to 12); they are numbered from 1.")
            .holds("one round", "newGame(2, 1) = 0; round() = 1;" + Games.QUIET_LAST_ROUND + "inTurn() = NONE")
            .holds("two rounds", "newGame(2, 2) = 0; round() = 1;" + Games.QUIET_ROUND + "round() = 2;"
                + Games.QUIET_LAST_ROUND + "inTurn() = NONE")
            .holds("twelve rounds", "newGame(2, 12) = 0; round() = 1;" + Games.QUIET_ROUND.repeat(10) + "round() = 11;"
                + Games.QUIET_ROUND + "round() = 12;" + Games.QUIET_LAST_ROUND + "inTurn() = NONE")
            .refuses("no round, and thirteen", "", "IllegalArgumentException", "newGame(2, 0)", "newGame(2, 13)");
        Sentence.of(ROUNDS,
            "At the start of each round the forest gets 3 wood, the clay pit 2 clay, the lake 1 food, and the "
                + "pasture 1 sheep, in addition to what is left there; each player with the well gets 1 food; "
                    + "no space is "
                + "occupied; and all members of all families are free workers.")
            .holds("the first round", "space(0, 0) = 3; space(1, 0) = 2; space(3, 0) = 1; space(5, 0) = 1;"
                + Games.each("space(%d, 0) = 0", 2, 4, 6, 7, 8, 9, 10, 11) + freeSpaces())
            .holds("what was taken begins again, and what was left is added to", """
                place(0, 0) = 1; place(4, 0) = 0; place(3, 0) = 1; place(4, 0) = 0;
                space(0, 0) = 3; space(1, 0) = 4; space(3, 0) = 1; space(5, 0) = 2;
                place(2, 0) = 1; place(4, 0) = 0; place(10, 0) = 1; place(4, 0) = 0;
                space(0, 0) = 6; space(1, 0) = 6; space(3, 0) = 2; space(5, 0) = 3;
                """ + Games.each("space(%d, 0) = 0", 2, 4, 6, 7, 8, 9, 10, 11) + freeSpaces())
            .holds("the well", """
                place(1, 0) = 1; place(4, 0) = 0; place(9, 5) = 1; goods(0, 4) = 2; place(4, 0) = 0; goods(0, 4) = 3;
                goods(1, 4) = 7""")
            .holds("all members are free, also one who came in the round before", Games.BUNKHOUSE + """
                player(0, 2) = 2; player(1, 2) = 2; place(7, 0) = 1; place(4, 0) = 0; place(4, 0) = 1; place(2, 0) = 0;
                player(0, 2) = 3; player(0, 1) = 0; player(1, 2) = 2""")
            .holds("all members are free, also those who skipped", Games.stuckInRoundThree(4) + """
                skip() = 1; player(0, 2) = 3; player(1, 2) = 2; player(2, 2) = 2; player(3, 2) = 2""");
        Sentence.of(ROUNDS, "The player with the start marker is the first one in turn.")
            .holds("player 0 in the first round, the last player in the next ones", """
                newGame(3, 3) = 0; inTurn() = 0; place(0, 0) = 1; place(1, 0) = 2; place(10, 0) = 0; place(2, 0) = 1;
                place(3, 0) = 2; place(4, 0) = 2; round() = 2; inTurn() = 2;
                place(0, 0) = 0; place(1, 0) = 1; place(2, 0) = 2; place(3, 0) = 0; place(4, 0) = 1; place(4, 0) = 2;
                round() = 3; inTurn() = 2; startPlayer() = 2""");
    }

    private static String freeSpaces() {
        return Games.each("space(%d, 1) = 0; space(%d, 3) = NONE", 0, 1, 2, 3, 4, 5, 6, 7, 8, 9, 10, 11);
    }

    private static void turns() {
        Sentence.of(ROUNDS, "The player in turn places one free worker on a space, and carries out its action at once.")
            .holds("from two free workers to none", """
                player(0, 2) = 2; place(0, 0) = 1; player(0, 2) = 1; player(1, 2) = 2; goods(0, 0) = 3; space(0, 1) = 1;
                space(0, 3) = 0; place(4, 0) = 0; player(1, 2) = 1; goods(1, 4) = 5; place(2, 0) = 1; player(0, 2) = 0;
                goods(0, 2) = 1""");
        Sentence.of(ROUNDS,
            "Then the next player in turn is the next one, by ascending numbers (0 after the last one), who has "
                + "free workers; this may be the same player.")
            .holds("0 after the last one", """
                newGame(4, 1) = 0; place(0, 0) = 1; place(1, 0) = 2; place(2, 0) = 3; place(3, 0) = 0; place(4, 0) = 1;
                newGame(3, 1) = 0; place(0, 0) = 1; place(1, 0) = 2; place(2, 0) = 0;
                newGame(2, 1) = 0; place(0, 0) = 1; place(1, 0) = 0""")
            .holds("players without free workers are passed over", Games.roundSeven(8) + """
                place(0, 0) = 1; place(1, 0) = 2; place(4, 0) = 3; place(4, 0) = 0;
                place(3, 0) = 1; place(5, 0) = 2; place(2, 0) = 3; place(10, 0) = 0;
                # player 2 and player 3 have no free workers
                place(11, 1) = 1; place(11, 5) = 0; player(0, 2) = 1; place(9, 6) = 3; round() = 8""")
            .holds("the same player", Games.BUNKHOUSE + """
                place(7, 0) = 1; place(4, 0) = 0; place(4, 0) = 1; place(10, 0) = 1;
                place(2, 0) = 0; place(4, 0) = 1; place(3, 0) = 0; place(4, 0) = 0; player(1, 2) = 0; player(0, 2) = 1;
                place(5, 0) = 1""");
        Sentence.of(ROUNDS, "The round ends when no player has a free worker.")
            .holds("not with one free worker, but without", """
                place(0, 0) = 1; place(1, 0) = 0; place(2, 0) = 1; player(0, 2) = 0; player(1, 2) = 1; round() = 1;
                place(3, 0) = 0; round() = 2""");
        Sentence.of(ROUNDS,
            "A player in turn who has no possible placement has to skip (see skip()): all free workers of this "
                + "player are not free any more in this round, and the next player is in turn, as above.")
            .holds("two free workers at once, and the other player goes on", Games.twoWorkersStuck(8) + """
                inTurn() = 0; player(0, 2) = 2; possible() = 0; skip() = 1; player(0, 2) = 0; player(1, 2) = 1;
                round() = 7;
                # player 0 is not in turn again in this round; player 3 has the start marker
                place(8, 1) = 3; round() = 8; player(0, 2) = 4""")
            .holds("the last free worker of the round", Games.stuckInRoundThree(4) + """
                player(0, 2) = 1; skip() = 1; round() = 4""")
            .refuses("any placement of such a player", Games.twoWorkersStuck(8), "IllegalStateException",
                "place(0, 0)", "place(2, 0)", "place(4, 0)", "place(6, 0)", "place(7, 0)", "place(8, 1)", "place(9, 6)",
                "place(9, 7)", "place(10, 0)", "place(11, 20)", "place(11, 16)");
    }

    private static void feeding() {
        Sentence.of(ROUNDS,
            "At the end of a round, for each player: if the number of the round is even, or it is the last "
                + "round, the player feeds the family: 2 food are needed for each member, but only 1 for one who came in this "
                + "round.")
            .holds("round 1 and round 3 of four are without feeding, round 2 and round 4 are not", """
                newGame(2, 4) = 0; place(4, 0) = 1; place(4, 0) = 0; place(0, 0) = 1; place(1, 0) = 0; goods(0, 4) = 4;
                goods(1, 4) = 5;
                place(4, 0) = 1; place(4, 0) = 0; place(0, 0) = 1; place(1, 0) = 0; goods(0, 4) = 2; goods(1, 4) = 3;
                place(4, 0) = 1; place(4, 0) = 0; place(0, 0) = 1; place(1, 0) = 0; goods(0, 4) = 4; goods(1, 4) = 5;
                place(4, 0) = 1; place(4, 0) = 0; place(0, 0) = 1; place(1, 0) = NONE; goods(0, 4) = 2;
                goods(1, 4) = 3""")
            .holds("round 1 of one", """
                newGame(2, 1) = 0; place(4, 0) = 1; place(4, 0) = 0; place(0, 0) = 1; place(1, 0) = NONE;
                goods(0, 4) = 0; goods(1, 4) = 1; player(0, 4) = 0""")
            .holds("round 3 of three", """
                newGame(2, 3) = 0; place(4, 0) = 1; place(4, 0) = 0; place(0, 0) = 1; place(1, 0) = 0;
                place(4, 0) = 1; place(4, 0) = 0; place(0, 0) = 1; place(1, 0) = 0; goods(0, 4) = 2; goods(1, 4) = 3;
                place(4, 0) = 1; place(4, 0) = 0; place(0, 0) = 1; place(1, 0) = NONE; goods(0, 4) = 0;
                goods(1, 4) = 1""")
            .holds("a round that is even and the last one feeds once", """
                newGame(2, 2) = 0; place(4, 0) = 1; place(4, 0) = 0; place(3, 0) = 1; place(0, 0) = 0;
                place(4, 0) = 1; place(4, 0) = 0; place(0, 0) = 1; place(1, 0) = NONE; goods(0, 4) = 3;
                goods(1, 4) = 3""")
            .holds("1 food for one who came in this round, 2 in the next one", Games.BUNKHOUSE + """
                place(7, 0) = 1; place(5, 0) = 0; place(4, 0) = 1; need(0) = 5; goods(0, 4) = 4; place(4, 0) = 0;
                player(0, 4) = 1; goods(0, 4) = 0; need(0) = 6""");
        Sentence.of(ROUNDS,
            "Food is paid first; while there is not enough, 1 grain is paid for 1 food each, and after that 1 sheep "
                + "for 2 food each (4 with the smokehouse), what is too much of this being kept as food.")
            .holds("just enough food: no grain and no sheep", """
                place(2, 0) = 1; place(4, 0) = 0; place(4, 0) = 1; place(0, 0) = 0;
                place(5, 0) = 1; place(4, 0) = 0; place(0, 0) = 1; goods(0, 4) = 4; goods(0, 2) = 1; goods(0, 3) = 2;
                place(4, 0) = 0; goods(0, 4) = 0; goods(0, 2) = 1;
                # the third one was born
                goods(0, 3) = 3""")
            .holds("1 food is missing: 1 of 2 grain, and no sheep", """
                place(4, 0) = 1; place(2, 0) = 0; place(4, 0) = 1; place(10, 0) = 1;
                place(5, 0) = 0; place(4, 0) = 1; place(0, 0) = 0; goods(1, 4) = 3; goods(1, 2) = 2; goods(1, 3) = 2;
                place(4, 0) = 1; goods(1, 4) = 0; goods(1, 2) = 1; goods(1, 3) = 3""")
            .holds("2 food are missing: 1 grain, then a sheep, of which 1 food is kept", """
                place(2, 0) = 1; place(4, 0) = 0; place(0, 0) = 1; place(4, 0) = 0;
                place(5, 0) = 1; place(4, 0) = 0; place(1, 0) = 1; goods(0, 4) = 2; goods(0, 2) = 1; goods(0, 3) = 2;
                place(4, 0) = 0; goods(0, 4) = 1; goods(0, 2) = 0; goods(0, 3) = 1; player(0, 4) = 0""")
            .holds("2 food are missing: a sheep, and nothing is kept", """
                place(0, 0) = 1; place(4, 0) = 0; place(1, 0) = 1; place(4, 0) = 0;
                place(5, 0) = 1; place(4, 0) = 0; place(0, 0) = 1; goods(0, 4) = 2; goods(0, 3) = 2;
                place(4, 0) = 0; goods(0, 4) = 0; goods(0, 3) = 1; player(0, 4) = 0""")
            .holds("7 food are missing: four of eight sheep, of which 1 food is kept", Games.FIVE_ROOMS + """
                place(0, 0) = 1; place(4, 0) = 0; place(9, 4) = 1; place(4, 0) = 0;
                place(7, 0) = 1; place(4, 0) = 0; place(0, 0) = 1; place(4, 0) = 0;
                place(7, 0) = 1; place(4, 0) = 0; place(0, 0) = 1; place(4, 0) = 0; need(0) = 7; goods(0, 4) = 0;
                space(5, 0) = 8;
                # four are left, and a fifth one is born
                place(5, 0) = 0; goods(0, 4) = 1; goods(0, 3) = 5; player(0, 4) = 10""")
            .holds("4 with the smokehouse, of which 3 are kept", """
                place(4, 0) = 1; place(0, 0) = 0; place(4, 0) = 1; place(1, 0) = 0;
                place(4, 0) = 1; place(9, 3) = 0; place(4, 0) = 1; goods(1, 4) = 3; place(5, 0) = 0;
                goods(1, 3) = 1; goods(1, 4) = 3; player(1, 4) = 0""");
        Sentence.of(ROUNDS, "For each food that is still missing there is a begging token.")
            .holds("none is missing", """
                place(4, 0) = 1; place(4, 0) = 0; place(0, 0) = 1; place(1, 0) = 0;
                place(0, 0) = 1; place(1, 0) = 0; place(2, 0) = 1; goods(0, 4) = 4; place(3, 0) = 0;
                player(0, 4) = 0""")
            .holds("1 is missing", Games.QUIET_ROUND + """
                place(0, 0) = 1; place(4, 0) = 0; place(1, 0) = 1; goods(0, 4) = 2; goods(0, 2) = 1; place(4, 0) = 0;
                player(0, 4) = 1;
                goods(0, 4) = 0; goods(0, 2) = 0""")
            .holds("all is missing, and tokens add up", Games.FIVE_ROOMS + "player(0, 4) = 6; goods(0, 4) = 0");
    }

    private static void breedingAndSpoilage() {
        Sentence.of(ROUNDS, "Then, in a round with feeding, the player gets 1 sheep if there are 2 or more.")
            .holds("1 sheep stays alone", """
                place(5, 0) = 1; place(4, 0) = 0; place(4, 0) = 1; place(0, 0) = 0;
                place(0, 0) = 1; place(4, 0) = 0; place(1, 0) = 1; goods(0, 3) = 1; goods(0, 4) = 4; place(4, 0) = 0;
                goods(0, 3) = 1""")
            .holds("2 become 3 in round 2, and stay so in round 3", """
                place(2, 0) = 1; place(5, 0) = 0; place(4, 0) = 1; place(4, 0) = 0;
                place(4, 0) = 1; place(5, 0) = 0; goods(1, 3) = 2; place(2, 0) = 1; place(4, 0) = 0; goods(1, 3) = 3;
                place(2, 0) = 1; place(4, 0) = 0; place(10, 0) = 1; place(4, 0) = 0; goods(1, 3) = 3""")
            .holds("2 of which one is eaten stay 1", """
                place(0, 0) = 1; place(4, 0) = 0; place(1, 0) = 1; place(4, 0) = 0;
                place(5, 0) = 1; place(4, 0) = 0; place(0, 0) = 1; goods(0, 3) = 2; place(4, 0) = 0; goods(0, 3) = 1""")
            .holds("4 become 5 in round 3, which is the last one", """
                newGame(2, 3) = 0; place(4, 0) = 1; place(4, 0) = 0; place(3, 0) = 1; place(0, 0) = 0;
                place(4, 0) = 1; place(4, 0) = 0; place(5, 0) = 1; place(1, 0) = 0; goods(0, 3) = 3;
                place(4, 0) = 1; place(4, 0) = 0; place(5, 0) = 1; goods(0, 3) = 4; place(0, 0) = NONE;
                goods(0, 3) = 5""");
        Sentence.of(ROUNDS, "Then, in every round, all grain but 3 spoils, unless the player has the storehouse.")
            .holds("3 stay in round 2, 4 become 3 in round 3 and in round 4, and what is eaten is eaten before", """
                place(2, 0) = 1; place(4, 0) = 0; place(10, 0) = 1; place(4, 0) = 0; goods(0, 2) = 2;
                place(4, 0) = 1; place(4, 0) = 0; place(2, 0) = 1; goods(0, 2) = 3; goods(0, 4) = 4; place(0, 0) = 0;
                goods(0, 2) = 3; goods(0, 4) = 0;
                place(2, 0) = 1; place(4, 0) = 0; place(4, 0) = 1; goods(0, 2) = 4; place(0, 0) = 0; goods(0, 2) = 3;
                place(2, 0) = 1; place(4, 0) = 0; place(4, 0) = 1; goods(0, 2) = 4; goods(0, 4) = 4; place(0, 0) = 0;
                goods(0, 2) = 3; goods(0, 4) = 0;
                place(2, 0) = 1; place(4, 0) = 0; place(10, 0) = 1; goods(0, 2) = 5; place(0, 0) = 0; goods(0, 2) = 3;
                # 4 grain for 4 food in round 6
                place(2, 0) = 1; place(4, 0) = 0; place(10, 0) = 1; goods(0, 2) = 5; goods(0, 4) = 0;
                place(0, 0) = NONE;
                goods(0, 2) = 1; player(0, 4) = 0""")
            .holds("the storehouse keeps 5", """
                place(0, 0) = 1; place(4, 0) = 0; place(9, 2) = 1; place(4, 0) = 0;
                place(3, 0) = 1; place(4, 0) = 0; place(2, 0) = 1; place(4, 0) = 0;
                place(2, 0) = 1; place(4, 0) = 0; place(10, 0) = 1; place(4, 0) = 0;
                place(4, 0) = 1; place(4, 0) = 0; place(3, 0) = 1; place(1, 0) = 0;
                place(2, 0) = 1; place(4, 0) = 0; place(10, 0) = 1; goods(0, 2) = 5; place(4, 0) = 0;
                goods(0, 2) = 5""");
    }

    private static void theEnd() {
        Sentence.of(ROUNDS,
            "After the last round the game is over, and everything stays as it is then; otherwise the next round "
                + "starts.")
            .holds("no goods are added, no space is free again, and no worker", """
                newGame(2, 1) = 0; place(0, 0) = 1; place(10, 0) = 0; place(2, 0) = 1; place(4, 0) = NONE;
                space(0, 0) = 0; space(1, 0) = 2; space(3, 0) = 1; space(5, 0) = 1;
                space(0, 1) = 1; space(0, 3) = 0; space(10, 1) = 1; space(10, 3) = 1; space(4, 1) = 1; space(4, 3) = 1;
                space(1, 1) = 0; space(1, 3) = NONE; player(0, 2) = 0; player(1, 2) = 0; startPlayer() = 1;
                goods(0, 0) = 3; goods(0, 2) = 0; goods(0, 4) = 0; player(0, 4) = 1; goods(1, 2) = 1; goods(1, 4) = 1;
                player(1, 4) = 0""")
            .holds("members who came in the last round still count so", """
                newGame(2, 2) = 0;""" + Games.BUNKHOUSE + """
                place(7, 0) = 1; place(4, 0) = 0; place(4, 0) = 1; place(2, 0) = NONE;
                player(0, 0) = 3; player(0, 1) = 1; player(0, 2) = 0; need(0) = 5""")
            .holds("the round before the last one is followed by a round",
                "newGame(2, 2) = 0;" + Games.QUIET_ROUND
                    + "round() = 2; inTurn() = 0; space(0, 0) = 3; player(0, 2) = 2")
            .refuses("a placement, and a skip", Games.OVER, "IllegalStateException", "place(1, 0)", "place(3, 0)",
                "skip()");
    }
}
