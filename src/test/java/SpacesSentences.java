/** The sentences of "Terms" on spaces. */
final class SpacesSentences {
    private static final String SPACES = "SPACES";
    private static final int[] WITHOUT_CHOICE = {0, 1, 2, 3, 4, 5, 6, 10};

    private SpacesSentences() {
    }

    static void test() {
        places();
        choices();
        spacesThatGive();
        room();
        growth();
        millAndBuild();
        startAndMarket();
        reasons();
    }

    private static void places() {
        String sixSpaces = "newGame(4, 6) = 0; place(0, 0) = 1; place(1, 0) = 2; place(2, 0) = 3; place(3, 0) = 0; "
            + "place(5, 0) = 1;"
            + "place(10, 0) = 2;";
        String room = """
            place(0, 0) = 1; place(4, 0) = 0; place(1, 0) = 1; place(4, 0) = 0; place(0, 0) = 1; place(4, 0) = 0;
            place(6, 0) = 1;""";
        String mill = "place(2, 0) = 1; place(10, 0) = 0; place(8, 1) = 1;";
        Sentence.of(SPACES, "The spaces have one place each, but LABOUR, BUILD and MARKET have two.")
            .holds("the number of places",
                Games.each("space(%d, 2) = 1", 0, 1, 2, 3, 5, 6, 7, 8, 10) + Games.each("space(%d, 2) = 2", 4, 9, 11))
            .holds("one placement fills the forest, the clay pit, the field, the lake, the pasture and the start",
                sixSpaces + Games.each("reason(%d, 0) = 2; space(%d, 1) = 1", 0, 1, 2, 3, 5, 10))
            .holds("one placement fills the room", room + "reason(6, 0) = 2; space(6, 1) = 1")
            .holds("one placement fills the growth", Games.BUNKHOUSE
                + "place(7, 0) = 1; reason(7, 0) = 2; space(7, 1) = 1")
            .holds("one placement fills the mill, though the other player has grain",
                mill + "goods(1, 2) = 1; reason(8, 1) = 2; space(8, 1) = 1")
            .holds("two placements fill the labour", """
                place(4, 0) = 1; space(4, 1) = 1; reason(4, 0) = 0; place(4, 0) = 0; space(4, 1) = 2;
                reason(4, 0) = 2""")
            .holds("two placements of one player fill the labour", """
                place(4, 0) = 1; place(0, 0) = 0; place(4, 0) = 1; space(4, 1) = 2; space(4, 3) = 0;
                reason(4, 0) = 2""")
            .holds("one place of the building ground leaves another, and both are free in the next round", """
                place(0, 0) = 1; place(1, 0) = 0; place(9, 6) = 1; space(9, 1) = 1; reason(9, 7) = 0; place(9, 7) = 0;
                place(9, 2) = 1; goods(1, 1) = 1; place(2, 0) = 0; space(9, 1) = 1; goods(0, 0) = 1;
                reason(9, 3) = 5""")
            .holds("two placements leave no building ground for a third one", """
                newGame(3, 6) = 0; place(0, 0) = 1; place(1, 0) = 2; place(11, 20) = 0; place(9, 2) = 1;
                place(9, 7) = 2;
                goods(2, 0) = 1; space(9, 1) = 2; reason(9, 6) = 2""")
            .holds("two placements fill the market", """
                place(11, 20) = 1; space(11, 1) = 1; reason(11, 21) = 0; place(11, 21) = 0; space(11, 1) = 2;
                reason(11, 0) = 2""")
            .refuses("a second placement on six spaces with one place", sixSpaces, "IllegalStateException",
                Games.calls("place(%d, 0)", 0, 1, 2, 3, 5, 10))
            .refuses("a second room", room, "IllegalStateException", "place(6, 0)")
            .refuses("a second growth", Games.BUNKHOUSE + "place(7, 0) = 1", "IllegalStateException", "place(7, 0)")
            .refuses("a second use of the mill", mill, "IllegalStateException", "place(8, 1)")
            .refuses("a third labour", "place(4, 0) = 1; place(4, 0) = 0", "IllegalStateException", "place(4, 0)")
            .refuses("a third building",
                "newGame(3, 6) = 0; place(0, 0) = 1; place(1, 0) = 2; place(11, 20) = 0; place(9, 2) = 1; "
                    + "place(9, 7) = 2",
                "IllegalStateException", "place(9, 6)")
            .refuses("a third trade", "newGame(3, 6) = 0; place(11, 20) = 1; place(11, 20) = 2",
                "IllegalStateException",
                "place(11, 20)");
    }

    private static void choices() {
        Sentence.of(SPACES, "For BUILD, MILL and MARKET a choice has to be made; for the other spaces the choice is 0.")
            .holds("another choice than 0",
                Games.each("reason(%d, 1) = 4; reason(%d, -1) = 4; reason(%d, 2147483647) = 4; "
                    + "reason(%d, -2147483648) = 4",
                    WITHOUT_CHOICE))
            .holds("another choice than 0 for the growth",
                Games.BUNKHOUSE + "reason(7, 0) = 0; reason(7, 1) = 4; reason(7, -1) = 4; reason(7, 2147483647) = 4")
            .holds("0 is no choice for the mill and for the market, but it is the oven",
                "reason(8, 0) = 4; reason(11, 0) = 4; reason(9, 0) = 5")
            .refuses("another choice than 0", "", "IllegalStateException", Games.calls("place(%d, 1)", WITHOUT_CHOICE))
            .refuses("a choice below 0", "", "IllegalStateException", Games.calls("place(%d, -1)", WITHOUT_CHOICE))
            .refuses("no choice", "place(2, 0) = 1; place(4, 0) = 0", "IllegalStateException", "place(8, 0)",
                "place(11, 0)");
    }

    private static void spacesThatGive() {
        Sentence.of(SPACES,
            "FOREST (0), CLAY_PIT (1), LAKE (3), PASTURE (5): the player gets all goods there (and 1 wood more from "
                + "the forest with the sawmill).")
            .holds("the goods of one round", """
                place(0, 0) = 1; goods(0, 0) = 3; space(0, 0) = 0; place(1, 0) = 0; goods(1, 1) = 2; space(1, 0) = 0;
                place(3, 0) = 1; goods(0, 4) = 3; space(3, 0) = 0""")
            .holds("the goods of two rounds, and what the player had", """
                place(2, 0) = 1; place(4, 0) = 0; place(4, 0) = 1; place(10, 0) = 1;
                place(0, 0) = 0; goods(1, 0) = 6; space(0, 0) = 0; place(1, 0) = 1; goods(0, 1) = 4; space(1, 0) = 0;
                goods(1, 4) = 5; place(3, 0) = 0; goods(1, 4) = 7; space(3, 0) = 0; place(5, 0) = 1;
                # the round is over, and a third sheep was born
                goods(0, 3) = 3; space(5, 0) = 1""")
            .holds("the sawmill gives 1 wood more, and none of it stays", """
                place(0, 0) = 1; place(4, 0) = 0; place(1, 0) = 1; place(4, 0) = 0;
                place(9, 1) = 1; goods(0, 0) = 1; place(4, 0) = 0; place(0, 0) = 1; goods(0, 0) = 5;
                space(0, 0) = 0""");
        Sentence.of(SPACES, "FIELD (2): 1 grain.")
            .holds("1 grain in the first round, and 1 when it was left alone", """
                place(2, 0) = 1; goods(0, 2) = 1; space(2, 0) = 0; place(4, 0) = 0; place(0, 0) = 1; place(4, 0) = 0;
                place(0, 0) = 1; place(4, 0) = 0; place(3, 0) = 1; place(4, 0) = 0; goods(0, 2) = 1;
                space(2, 0) = 0; place(2, 0) = 1; goods(0, 2) = 2""");
        Sentence.of(SPACES, "LABOUR (4): 2 food.")
            .holds("2 food on each of both places, and 2 when it was left alone", """
                place(4, 0) = 1; goods(0, 4) = 4; place(4, 0) = 0; goods(1, 4) = 5; space(4, 0) = 0; place(0, 0) = 1;
                place(1, 0) = 0;
                place(0, 0) = 1; place(1, 0) = 0; place(2, 0) = 1; place(5, 0) = 0; goods(0, 4) = 0; space(4, 0) = 0;
                place(4, 0) = 1; goods(0, 4) = 2""");
    }

    private static void room() {
        String fourWood = "place(0, 0) = 1; place(4, 0) = 0; place(11, 20) = 1; place(4, 0) = 0;";
        String threeWoodAndOneClay = "place(0, 0) = 1; place(4, 0) = 0; place(11, 21) = 1; place(4, 0) = 0;";
        Sentence.of(SPACES, "ROOM (6): pays 4 wood and 1 clay for one more room; possible with less than 5 rooms.")
            .holds("4 wood and 1 clay are enough", fourWood + """
                goods(0, 0) = 4; goods(0, 1) = 0; reason(6, 0) = 5; place(4, 0) = 1; place(4, 0) = 0;
                place(11, 21) = 1; place(2, 0) = 0;
                goods(0, 0) = 4; goods(0, 1) = 1; reason(6, 0) = 0; place(6, 0) = 1; goods(0, 0) = 0; goods(0, 1) = 0;
                player(0, 3) = 3; player(1, 3) = 2""")
            .holds("3 wood are one too few", threeWoodAndOneClay + "goods(0, 0) = 3; goods(0, 1) = 1; reason(6, 0) = 5")
            .holds("the fifth room, and no sixth one", """
                newGame(2, 12) = 0;
                place(0, 0) = 1; place(4, 0) = 0; place(1, 0) = 1; place(4, 0) = 0;
                place(0, 0) = 1; place(4, 0) = 0; place(6, 0) = 1; place(4, 0) = 0;
                place(0, 0) = 1; place(4, 0) = 0; place(6, 0) = 1; place(4, 0) = 0;
                place(0, 0) = 1; place(4, 0) = 0; place(1, 0) = 1; place(4, 0) = 0; player(0, 3) = 4; reason(6, 0) = 0;
                place(6, 0) = 1; player(0, 3) = 5; place(4, 0) = 0; place(0, 0) = 1; place(4, 0) = 0;
                place(0, 0) = 1; place(4, 0) = 0; goods(0, 0) = 6; goods(0, 1) = 5; reason(6, 0) = 5""")
            .refuses("no clay", fourWood, "IllegalStateException", "place(6, 0)")
            .refuses("3 wood", threeWoodAndOneClay, "IllegalStateException", "place(6, 0)")
            .refuses("nothing to pay with", "", "IllegalStateException", "place(6, 0)")
            .refuses("a sixth room", Games.FIVE_ROOMS + "place(0, 0) = 1; place(4, 0) = 0;", "IllegalStateException",
                "place(6, 0)");
    }

    private static void growth() {
        String threeRooms = """
            place(0, 0) = 1; place(4, 0) = 0; place(1, 0) = 1; place(4, 0) = 0;
            place(0, 0) = 1; place(4, 0) = 0; place(6, 0) = 1; place(4, 0) = 0;
            """;
        Sentence.of(SPACES,
            "GROWTH (7): the family grows by 1; possible with a family of less than 5, and less than the number of "
                + "rooms (plus 1 with the bunkhouse).")
            .holds("two members: not in two rooms, but in three", Games.QUIET_ROUND + "reason(7, 0) = 5")
            .holds("three rooms: two members become three, and three stay", threeRooms + """
                player(0, 3) = 3; player(0, 0) = 2; reason(7, 0) = 0; place(7, 0) = 1; player(0, 0) = 3;
                player(0, 1) = 1;
                place(4, 0) = 0; place(0, 0) = 1; place(4, 0) = 0; player(0, 0) = 3; reason(7, 0) = 5""")
            .holds("the bunkhouse: two members in two rooms become three, and three stay", Games.BUNKHOUSE + """
                place(7, 0) = 1; player(0, 0) = 3; place(4, 0) = 0; place(4, 0) = 1; place(2, 0) = 0;
                reason(7, 0) = 5""")
            .holds("four members in five rooms become five, and five stay, though there are six with the bunkhouse",
                Games.FIVE_MEMBERS + "player(0, 0) = 5; player(0, 3) = 5; player(0, 5) = 16; reason(7, 0) = 5")
            .refuses("two members in two rooms", Games.QUIET_ROUND, "IllegalStateException", "place(7, 0)")
            .refuses("three members in three rooms",
                threeRooms + "place(7, 0) = 1; place(4, 0) = 0; place(0, 0) = 1; place(4, 0) = 0",
                "IllegalStateException", "place(7, 0)")
            .refuses("five members", Games.FIVE_MEMBERS, "IllegalStateException", "place(7, 0)");
        Sentence.of(SPACES, "The new member is no free worker in this round.")
            .holds("not in this round, but in the next one", Games.BUNKHOUSE + """
                player(0, 2) = 2; place(7, 0) = 1; player(0, 0) = 3; player(0, 2) = 1; place(4, 0) = 0; place(4, 0) = 1;
                player(0, 2) = 0; place(2, 0) = 0; round() = 3; player(0, 2) = 3""");
        Sentence.of(SPACES, "This space is open from round 2 on.")
            .holds("not in round 1, but in round 2 and in round 3", """
                reason(7, 0) = 3; place(0, 0) = 1; reason(7, 0) = 3; place(4, 0) = 0; place(9, 4) = 1;
                reason(7, 0) = 3; place(4, 0) = 0;
                round() = 2; reason(7, 0) = 0; place(4, 0) = 1; place(4, 0) = 0; place(0, 0) = 1; place(2, 0) = 0;
                round() = 3; reason(7, 0) = 0""")
            .refuses("round 1 again, behind an undo", """
                newGame(2, 3) = 0; place(0, 0) = 1; place(4, 0) = 0; place(9, 4) = 1; place(2, 0) = 0; place(4, 0) = 1;
                place(1, 0) = 0; undo() = 3; undo() = 2; undo() = 1;
                round() = 1""", "IllegalStateException", "place(7, 0)")
            .refuses("round 1", "", "IllegalStateException", "place(7, 0)");
    }

    private static void millAndBuild() {
        String twoGrain = "place(2, 0) = 1; place(4, 0) = 0; place(10, 0) = 1; place(4, 0) = 0;";
        Sentence.of(SPACES,
            "MILL (8): the choice is 1 to 3; so many grain are paid, and give 3 food each (5 with the oven).")
            .holds("1 of 2 grain", twoGrain + "place(8, 1) = 1; goods(0, 2) = 1; goods(0, 4) = 5")
            .holds("2 of 2 grain", twoGrain + "reason(8, 2) = 0; place(8, 2) = 1; goods(0, 2) = 0; goods(0, 4) = 8")
            .holds("3 of 2 grain are one too many, and 3 of 3 are not", twoGrain + """
                reason(8, 3) = 5; place(2, 0) = 1; place(4, 0) = 0; goods(0, 2) = 3; reason(8, 3) = 0; place(8, 3) = 1;
                goods(0, 2) = 0; goods(0, 4) = 11""")
            .holds("1 of no grain is one too many", "goods(0, 2) = 0; reason(8, 1) = 5")
            .holds("there is no choice below 1 and above 3", twoGrain + """
                place(2, 0) = 1; place(4, 0) = 0; goods(0, 2) = 3; reason(8, 0) = 4; reason(8, 4) = 4;
                reason(8, -1) = 4;
                reason(8, -2147483648) = 4; reason(8, 2147483647) = 4""")
            .holds("5 food each with the oven", """
                place(1, 0) = 1; place(4, 0) = 0; place(11, 21) = 1; place(4, 0) = 0;
                place(9, 0) = 1; place(4, 0) = 0; place(2, 0) = 1; goods(0, 2) = 1; place(4, 0) = 0; goods(0, 4) = 0;
                place(2, 0) = 1; place(4, 0) = 0; place(8, 1) = 1; goods(0, 4) = 5; goods(0, 2) = 0""")
            .refuses("more grain than there is", twoGrain, "IllegalStateException", "place(8, 3)")
            .refuses("no grain", "", "IllegalStateException", "place(8, 1)")
            .refuses("a choice that there is not", twoGrain + "place(2, 0) = 1; place(4, 0) = 0;",
                "IllegalStateException",
                "place(8, 0)", "place(8, 4)", "place(8, -1)", "place(8, -2147483648)", "place(8, 2147483647)");
        Sentence.of(SPACES,
            "BUILD (9): the choice is the number of a building that nobody has; the player pays its cost and gets it.")
            .holds("the first and the last number", """
                place(1, 0) = 1; place(4, 0) = 0; place(11, 21) = 1; place(4, 0) = 0; goods(0, 1) = 3; place(9, 0) = 1;
                owner(0) = 0;
                goods(0, 1) = 0; player(0, 5) = 1; place(4, 0) = 0; place(1, 0) = 1; place(4, 0) = 0;
                goods(0, 1) = 2; place(9, 7) = 1; owner(7) = 0; goods(0, 1) = 1; player(0, 5) = 129""")
            .holds("the numbers beside them",
                "place(1, 0) = 1; place(4, 0) = 0; reason(9, -1) = 4; reason(9, 8) = 4; reason(9, 7) = 0")
            .refuses("there is no such building", "place(1, 0) = 1; place(4, 0) = 0", "IllegalStateException",
                "place(9, -1)", "place(9, 8)", "place(9, 39)", "place(9, -2147483648)", "place(9, 2147483647)")
            .refuses("a player has it", "place(1, 0) = 1; place(11, 21) = 0; place(9, 7) = 1; goods(1, 1) = 1",
                "IllegalStateException", "place(9, 7)")
            .refuses("its cost is missing", "place(1, 0) = 1; place(4, 0) = 0", "IllegalStateException", "place(9, 0)");
    }

    private static void startAndMarket() {
        Sentence.of(SPACES, "START (10): the player gets 1 grain, and the start marker.")
            .holds("from another player, and at once", """
                startPlayer() = 0; place(0, 0) = 1; place(10, 0) = 0; goods(1, 2) = 1; goods(0, 2) = 0;
                startPlayer() = 1""")
            .holds("the player who has it keeps it", "place(10, 0) = 1; goods(0, 2) = 1; startPlayer() = 0")
            .holds("1 grain alone when it was left alone", Games.QUIET_ROUND
                + "place(10, 0) = 1; goods(0, 2) = 2; space(10, 0) = 0");
        Sentence.of(SPACES,
            "MARKET (11): the choice is 5 * a + b, for two different goods a and b; 2 of a are paid for 1 of b.")
            .holds("2 of a are enough, and 0 are left", """
                goods(0, 4) = 2; place(11, 20) = 1; goods(0, 4) = 0; goods(0, 0) = 1; goods(1, 4) = 3;
                place(11, 23) = 0;
                goods(1, 4) = 1; goods(1, 3) = 1""")
            .holds("1 of a is one too few", "place(11, 20) = 1; place(11, 20) = 0; goods(0, 0) = 1; newGame(2, 6) = 0;"
                + "place(11, 20) = 1; place(4, 0) = 0; goods(0, 0) = 1;" + Games.each("reason(11, %d) = 5", 1, 2, 3, 4))
            .holds("two goods that are the same", Games.each("reason(11, %d) = 4", 0, 6, 12, 18, 24))
            .holds("each a with each other b", """
                place(2, 0) = 1; place(4, 0) = 0; place(10, 0) = 1; place(4, 0) = 0; goods(0, 2) = 2;
                """ + Games.each("reason(11, %d) = 0", 10, 11, 13, 14, 20, 21, 22, 23)
                + Games.each("reason(11, %d) = 5", 1, 2, 3, 4, 5, 7, 8, 9, 15, 16, 17, 19))
            .holds("below the first and above the last choice",
                Games.each("reason(11, %d) = 4", -1, 25, -4, 26, Integer.MIN_VALUE, Integer.MAX_VALUE))
            .refuses("two goods that are the same", "", "IllegalStateException", Games.calls("place(11, %d)", 0, 6,
                12, 18, 24))
            .refuses("below the first and above the last choice", "", "IllegalStateException",
                Games.calls("place(11, %d)", -1, 25, -4, 26, Integer.MIN_VALUE, Integer.MAX_VALUE))
            .refuses("none, or 1, of a", "place(11, 20) = 1; place(4, 0) = 0; goods(0, 0) = 1", "IllegalStateException",
                Games.calls("place(11, %d)", 1, 4, 5, 10, 15, 20));
    }

    private static void reasons() {
        Sentence.of(SPACES,
            "A placement is impossible for the first of these reasons that applies: 1: the game is over; 2: all "
                + "places of the space are occupied; 3: the space is not open; "
                    + "4: there is no such choice for this space (a building "
                + "that exists is one, also if a player has it); "
                    + "5: something that has to be paid is missing, the building belongs to "
                + "a player, or there are too many rooms or members of the family.")
            .holds("1 comes ahead of 2, 3, 4 and 5", Games.OVER + """
                space(0, 1) = 1; reason(0, 0) = 1; reason(4, 0) = 1; reason(7, 0) = 1; reason(7, 9) = 1;
                reason(0, 5) = 1;
                reason(1, 5) = 1; reason(1, 0) = 1; reason(6, 0) = 1; reason(9, 8) = 1; reason(11, 25) = 1""")
            .holds("2 comes ahead of 4",
                "place(0, 0) = 1; reason(0, 1) = 2; reason(0, -2147483648) = 2; reason(0, 0) = 2")
            .holds("2 comes ahead of 4 and 5", "place(11, 20) = 1; place(11, 20) = 0;"
                + Games.each("reason(11, %d) = 2", -1, 0, 1, 24, 25) + """
                newGame(3, 6) = 0; place(0, 0) = 1; place(1, 0) = 2; place(11, 20) = 0; place(9, 2) = 1;
                place(9, 7) = 2;
                reason(9, 8) = 2; reason(9, -1) = 2; reason(9, 2) = 2; reason(9, 0) = 2""")
            .holds("2 comes ahead of 5 for the growth", Games.BUNKHOUSE
                + "place(7, 0) = 1; reason(7, 0) = 2; reason(7, 1) = 2")
            .holds("3 comes ahead of 4 and 5", "reason(7, 0) = 3; reason(7, 1) = 3; reason(7, -2147483648) = 3")
            .holds("4 comes ahead of 5", "reason(6, 1) = 4; reason(8, 4) = 4; reason(9, 8) = 4; reason(11, 0) = 4;"
                + Games.QUIET_ROUND + "reason(7, 0) = 5; reason(7, 1) = 4")
            .holds("5, and not 4, for a building that a player has", """
                place(1, 0) = 1; place(11, 21) = 0; place(9, 7) = 1; goods(1, 1) = 1; reason(9, 7) = 5;
                place(4, 0) = 0; goods(0, 1) = 1;
                reason(9, 7) = 5""")
            .holds("5 for what is missing", "reason(6, 0) = 5; reason(8, 1) = 5; reason(9, 0) = 5; reason(11, 1) = 5")
            .holds("5 for too many rooms, and for too many members", Games.FIVE_MEMBERS + """
                goods(0, 0) = 12; goods(0, 1) = 5; reason(6, 0) = 5; reason(7, 0) = 5""")
            .refuses("1", Games.OVER, "IllegalStateException", "place(1, 0)")
            .refuses("2", "place(0, 0) = 1", "IllegalStateException", "place(0, 0)")
            .refuses("3", "", "IllegalStateException", "place(7, 0)")
            .refuses("4", "", "IllegalStateException", "place(0, 1)")
            .refuses("5", "", "IllegalStateException", "place(6, 0)");
    }
}
