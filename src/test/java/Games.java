/** Beginnings of games that several tests share, as scripts. */
final class Games {
    /** A round of two players in which player 0 takes the wood and a grain, and player 1 labours. */
    static final String QUIET_ROUND = "place(0, 0) = 1; place(4, 0) = 0; place(2, 0) = 1; place(4, 0) = 0;\n";

    /** The same as the last round of a game. */
    static final String QUIET_LAST_ROUND = "place(0, 0) = 1; place(4, 0) = 0; place(2, 0) = 1; place(4, 0) = NONE;\n";

    /** A game of one round that is over. */
    static final String OVER = "newGame(2, 1) = 0;\n" + QUIET_LAST_ROUND;

    /**
     * Four players at the end of round 3: player 0, who has the bunkhouse and three members, is left
     * with one free worker, 1 sheep and 1 food, and all spaces that cost nothing are occupied.
     * Player 1 has the start marker.
     */
    static String stuckInRoundThree(int rounds) {
        return "newGame(4, " + rounds + ") = 0;\n" + """
            place(0, 0) = 1; place(4, 0) = 2; place(4, 0) = 3; place(3, 0) = 0;
            place(9, 4) = 1; place(5, 0) = 2; place(2, 0) = 3; place(1, 0) = 0;
            place(7, 0) = 1; place(3, 0) = 2; place(5, 0) = 3; place(4, 0) = 0;
            place(4, 0) = 1; place(2, 0) = 2; place(0, 0) = 3; place(1, 0) = 0;
            place(3, 0) = 1; place(0, 0) = 2; place(1, 0) = 3; place(2, 0) = 0;
            place(5, 0) = 1; place(10, 0) = 2; place(4, 0) = 3; place(4, 0) = 0;
            """;
    }

    /**
     * Four players at the beginning of round 7. Player 0 has four members, three rooms, the bunkhouse,
     * the start marker, 11 begging tokens and no good at all; player 1 has three members, three rooms
     * and 1 sheep; player 2 and player 3 have two members, and player 3 has 3 grain.
     */
    static String roundSeven(int rounds) {
        return "newGame(4, " + rounds + ") = 0;\n" + """
            place(11, 21) = 1; place(11, 21) = 2; place(4, 0) = 3; place(4, 0) = 0;
            place(0, 0) = 1; place(3, 0) = 2; place(5, 0) = 3; place(1, 0) = 0;
            # round 2: player 0 has 6 wood and 1 clay for a room, and begs for 4 food
            place(0, 0) = 1; place(4, 0) = 2; place(4, 0) = 3; place(3, 0) = 0;
            place(6, 0) = 1; place(5, 0) = 2; place(1, 0) = 3; place(2, 0) = 0;
            # round 3: the third member of player 0
            place(7, 0) = 1; place(0, 0) = 2; place(4, 0) = 3; place(4, 0) = 0;
            place(3, 0) = 1; place(5, 0) = 2; place(1, 0) = 3; place(2, 0) = 0;
            # round 4: the bunkhouse of player 0, who begs for 6 food; the room of player 1
            place(3, 0) = 1; place(0, 0) = 2; place(4, 0) = 3; place(4, 0) = 0;
            place(11, 20) = 1; place(6, 0) = 2; place(1, 0) = 3; place(2, 0) = 0; place(9, 4) = 0;
            # round 5: the fourth member of player 0
            place(7, 0) = 1; place(11, 4) = 2; place(4, 0) = 3; place(4, 0) = 0;
            place(3, 0) = 1; place(5, 0) = 2; place(1, 0) = 3; place(2, 0) = 0; place(10, 0) = 0;
            # round 6: the third member of player 1; player 0 has 7 food and grain for 8
            place(3, 0) = 1; place(7, 0) = 2; place(4, 0) = 3; place(4, 0) = 0;
            place(2, 0) = 1; place(5, 0) = 2; place(1, 0) = 3; place(0, 0) = 0; place(10, 0) = 0; place(8, 1) = 0;
            """;
    }

    /**
     * Round 7: all spaces that cost nothing are occupied, player 0 has two free workers, 1 food and
     * 1 sheep, and nothing to do with them; player 1 has one free worker, 3 wood, 1 grain and 1 sheep.
     * Player 3 has the start marker.
     */
    static String twoWorkersStuck(int rounds) {
        return roundSeven(rounds) + """
            place(3, 0) = 1; place(0, 0) = 2; place(4, 0) = 3; place(4, 0) = 0;
            place(5, 0) = 1; place(2, 0) = 2; place(1, 0) = 3; place(10, 0) = 0;
            """;
    }

    /**
     * Round 7: player 0 has two free workers, 1 food and 1 sheep; only the field is possible, and
     * nothing is behind it, since the mill is occupied.
     */
    static String onePlacementLeft(int rounds) {
        return roundSeven(rounds) + """
            place(3, 0) = 1; place(0, 0) = 2; place(4, 0) = 3; place(4, 0) = 0;
            place(5, 0) = 1; place(10, 0) = 2; place(1, 0) = 3; place(8, 1) = 0;
            """;
    }

    /** Two players in round 6 of 12: player 0 has 5 rooms, 3 wood, 5 clay and 6 begging tokens. */
    static final String FIVE_ROOMS = """
        newGame(2, 12) = 0;
        place(0, 0) = 1; place(4, 0) = 0; place(1, 0) = 1; place(4, 0) = 0;
        place(0, 0) = 1; place(4, 0) = 0; place(6, 0) = 1; place(4, 0) = 0;
        place(0, 0) = 1; place(4, 0) = 0; place(6, 0) = 1; place(4, 0) = 0;
        place(0, 0) = 1; place(4, 0) = 0; place(1, 0) = 1; place(4, 0) = 0;
        place(6, 0) = 1; place(4, 0) = 0; place(0, 0) = 1; place(4, 0) = 0;
        """;

    /**
     * Two players in round 10 of 12: player 0 has 5 rooms, 5 members, the bunkhouse, 12 wood, 5 clay,
     * 2 grain, 5 sheep, 1 food and 10 begging tokens.
     */
    static final String FIVE_MEMBERS = FIVE_ROOMS + """
        place(0, 0) = 1; place(4, 0) = 0; place(9, 4) = 1; place(4, 0) = 0;
        place(7, 0) = 1; place(4, 0) = 0; place(0, 0) = 1; place(4, 0) = 0;
        place(7, 0) = 1; place(4, 0) = 0; place(0, 0) = 1; place(4, 0) = 0; place(5, 0) = 0;
        place(7, 0) = 1; place(4, 0) = 0; place(0, 0) = 1; place(4, 0) = 0; place(2, 0) = 0; place(10, 0) = 0;
        """;

    /** Two players in round 2: player 0 has the bunkhouse, and 2 food. */
    static final String BUNKHOUSE = "place(0, 0) = 1; place(4, 0) = 0; place(9, 4) = 1; place(4, 0) = 0;\n";

    /**
     * Two players in round 8 of 12: player 0 has 5 wood, 9 clay, 3 grain, 5 sheep, 2 food, two members
     * and three rooms, so that each placement that there is is possible.
     */
    static final String EVERYTHING_POSSIBLE = """
        newGame(2, 12) = 0;
        place(0, 0) = 1; place(4, 0) = 0; place(1, 0) = 1; place(4, 0) = 0;
        place(0, 0) = 1; place(4, 0) = 0; place(3, 0) = 1; place(4, 0) = 0;
        place(6, 0) = 1; place(4, 0) = 0; place(0, 0) = 1; place(4, 0) = 0;
        place(5, 0) = 1; place(4, 0) = 0; place(4, 0) = 1; place(0, 0) = 0;
        place(1, 0) = 1; place(4, 0) = 0; place(10, 0) = 1; place(4, 0) = 0;
        place(2, 0) = 1; place(4, 0) = 0; place(3, 0) = 1; place(4, 0) = 0;
        place(2, 0) = 1; place(4, 0) = 0; place(4, 0) = 1; place(0, 0) = 0;
        """;

    private Games() {
    }

    /** One script for each of some numbers, which stands for "%d". */
    static String each(String script, int... numbers) {
        StringBuilder all = new StringBuilder();
        for (int number : numbers) {
            all.append(script.replace("%d", String.valueOf(number))).append(";\n");
        }
        return all.toString();
    }

    /** One call for each of some numbers, which stands for "%d". */
    static String[] calls(String call, int... numbers) {
        String[] all = new String[numbers.length];
        for (int i = 0; i < numbers.length; i++) {
            all[i] = call.replace("%d", String.valueOf(numbers[i]));
        }
        return all;
    }
}
