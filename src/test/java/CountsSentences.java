/** The sentences of promises 16 to 21: need, missing, score, rank, possible and option. */
final class CountsSentences {
    private static final String INDEX = "IndexOutOfBoundsException";
    private static final String ARGUMENT = "IllegalArgumentException";
    private static final int LEAST = Integer.MIN_VALUE;
    private static final int MOST = Integer.MAX_VALUE;

    private CountsSentences() {
    }

    static void test() {
        need();
        missing();
        score();
        rank();
        possible();
        option();
    }

    private static void testThatPlayersAreNeeded(String promise, String call) {
        Sentence.of(promise, "Throws IndexOutOfBoundsException if there is no such player")
            .refuses("in the midst of a game", Games.QUIET_ROUND, INDEX, Games.calls(call, -1, 2))
            .refuses("the game is over", Games.OVER, INDEX, Games.calls(call, -1, 2, LEAST, MOST));
    }

    private static void need() {
        String promise = "Promise 16: need";
        Sentence.of(promise, "Returns the food that a player would need if the round ended with feeding now.")
            .holds("also in a round without feeding", "round() = 1; need(0) = 4; need(1) = 4")
            .holds("1 for a member who came in this round, and 2 in the next one, which is without feeding", Games.BUNKHOUSE + """
                need(0) = 4; place(7, 0) = 1; need(0) = 5; need(1) = 4; place(4, 0) = 0; place(4, 0) = 1;
                place(2, 0) = 0; round() = 3; need(0) = 6""");
        StateSentences.testPlayerNumber(promise, "need(%d)");
        Sentence.of(promise, "Returns the food that is needed for the whole family.")
            .holds("two, three, four and five members", Games.roundSeven(8)
                + "need(0) = 8; need(1) = 6; need(2) = 4; need(3) = 4")
            .holds("five members", Games.FIVE_MEMBERS + "need(0) = 10; need(1) = 4")
            .holds("whatever food there is",
                "place(4, 0) = 1; goods(0, 4) = 4; need(0) = 4; place(11, 20) = 0; goods(1, 4) = 1; need(1) = 4");
        testThatPlayersAreNeeded(promise, "need(%d)");
    }

    private static void missing() {
        String promise = "Promise 17: missing";
        Sentence.of(promise, "Returns the begging tokens that a player would get if the round ended with feeding now.")
            .holds("also in a round without feeding, and none is got",
                "round() = 1; missing(0) = 2; missing(1) = 1; player(0, 4) = 0")
            .holds("what is got at the end of a round with feeding", Games.QUIET_ROUND + """
                place(0, 0) = 1; place(4, 0) = 0; place(1, 0) = 1; missing(0) = 1; missing(1) = 0; place(4, 0) = 0;
                player(0, 4) = 1; player(1, 4) = 0""")
            .holds("tokens that there are do not count", Games.FIVE_ROOMS
                + "player(0, 4) = 6; goods(0, 4) = 0; missing(0) = 4");
        StateSentences.testPlayerNumber(promise, "missing(%d)");
        Sentence.of(promise, "Returns the number of food that would be missing after all conversions.")
            .holds("just enough food, and more",
                "place(4, 0) = 1; goods(0, 4) = 4; missing(0) = 0; place(4, 0) = 0; goods(1, 4) = 5; missing(1) = 0")
            .holds("1 food of each grain, which is not paid", """
                missing(0) = 2; place(2, 0) = 1; missing(0) = 1; place(4, 0) = 0; place(10, 0) = 1; missing(0) = 0;
                goods(0, 2) = 2; goods(0, 4) = 2""")
            .holds("2 food of each sheep, which is not paid", """
                place(11, 20) = 1; goods(0, 4) = 0; missing(0) = 4; place(4, 0) = 0; place(5, 0) = 1; goods(0, 3) = 1;
                missing(0) = 2; goods(0, 3) = 1""")
            .holds("4 food of a sheep with the smokehouse", """
                place(0, 0) = 1; place(11, 22) = 0; place(1, 0) = 1; place(8, 1) = 0; place(11, 23) = 1;
                goods(0, 4) = 0; goods(0, 3) = 1; missing(0) = 2;
                place(4, 0) = 0; place(9, 3) = 1; missing(0) = 0; goods(0, 3) = 1""")
            .holds("never less than 0", Games.FIVE_MEMBERS
                + "goods(1, 4) = any; missing(1) = 0; goods(0, 4) = 1; goods(0, 2) = 2; goods(0, 3) = 5;"
                + "need(0) = 10; missing(0) = 0");
        testThatPlayersAreNeeded(promise, "missing(%d)");
    }

    private static void score() {
        String promise = "Promise 18: score";
        StateSentences.testPlayerNumber(promise, "score(%d, 0)");
        Sentence.of(promise,
            "part: 0 family, 1 rooms, 2 sheep, 3 grain, 4 buildings, 5 begging tokens (0 or less), 6 the whole score")
            .holds("each of them at the beginning", """
                score(0, 0) = 6; score(0, 1) = 2; score(0, 2) = 0; score(0, 3) = 0; score(0, 4) = 0; score(0, 5) = 0;
                score(0, 6) = 8""")
            .holds("each of them later on", Games.FIVE_MEMBERS + """
                score(0, 0) = 15; score(0, 1) = 5; score(0, 2) = 5; score(0, 3) = 1; score(0, 4) = 1;
                score(0, 5) = -30; score(0, 6) = -3""")
            .refuses("-1 and 7, and beyond", "", ARGUMENT, Games.calls("score(0, %d)", -1, 7, LEAST, MOST));
        Sentence.of(promise, "Throws IndexOutOfBoundsException if there is no such player")
            .refuses("whatever the part is", Games.QUIET_ROUND, INDEX, "score(-1, 0)", "score(2, 6)", "score(2, 7)",
                "score(-1, -1)")
            .refuses("the game is over", Games.OVER, INDEX, "score(-1, 6)", "score(2, 6)");
        Sentence.of(promise, "Throws IllegalArgumentException if part is out of range")
            .refuses("each player", Games.QUIET_ROUND, ARGUMENT, "score(0, -1)", "score(0, 7)", "score(1, -1)",
                "score(1, 7)");
    }

    private static void rank() {
        String promise = "Promise 19: rank";
        Sentence.of(promise, "Returns the rank of a player.")
            .holds("it changes with the score, and with the food", """
                rank(0) = 2; rank(1) = 1; place(5, 0) = 1; rank(0) = 1; rank(1) = 2; place(11, 23) = 0;
                score(1, 6) = 9; goods(0, 4) = 2;
                goods(1, 4) = 1; rank(0) = 1; rank(1) = 2""")
            .holds("when the game is over",
                "newGame(2, 1) = 0; play(1, 10) = 4; score(0, 6) = 9; score(1, 6) = 8; rank(0) = 1; rank(1) = 2");
        StateSentences.testPlayerNumber(promise, "rank(%d)");
        Sentence.of(promise, "Returns 1 or more.")
            .holds("1 for all that are the same, and 4 for the last of four",
                "place(3, 0) = 1; rank(0) = 1; rank(1) = 1; newGame(4, 1) = 0; rank(0) = 4; rank(3) = 1; "
                    + "place(3, 0) = 1; rank(0) = 1; rank(3) = 1");
        testThatPlayersAreNeeded(promise, "rank(%d)");
    }

    private static void possible() {
        String promise = "Promise 20: possible";
        Sentence.of(promise, "Returns the number of possible placements of the player in turn.")
            .holds("a new object, and the player who is in turn then", """
                possible() = 11;
                # the forest is occupied; player 1 has food for the market
                place(0, 0) = 1; possible() = 10; place(11, 20) = 0;
                # 3 wood: storehouse, bunkhouse, carpenter; wood and food for the market
                possible() = 17""")
            .holds("all that there are", Games.EVERYTHING_POSSIBLE + """
                goods(0, 0) = 5; goods(0, 1) = 9; goods(0, 2) = 3; goods(0, 3) = 5; goods(0, 4) = 2; player(0, 3) = 3;
                possible() = 40""")
            .holds("one", Games.onePlacementLeft(8) + "possible() = 1")
            .holds("none", Games.twoWorkersStuck(8) + "possible() = 0; skip() = 1; possible() = any; reason(8, 1) = 0");
        Sentence.of(promise, "Returns the number; 0 if the game is over.")
            .holds("a game that is over, and the undo of its end", Games.OVER
                + "possible() = 0; undo() = 3; possible() = 9");
    }

    private static void option() {
        String promise = "Promise 21: option";
        Sentence.of(promise, "Returns a possible placement of the player in turn.")
            .holds("the player who is in turn then", """
                option(0) = 0; place(0, 0) = 1; option(0) = 100; place(1, 0) = 0; option(0) = 200; option(4) = 902""")
            .holds("one alone", Games.onePlacementLeft(8) + "option(0) = 200");
        Sentence.of(promise, "index: 0 to possible() - 1; ascending by the result")
            .holds("the first and the last one of eleven", """
                option(0) = 0; option(1) = 100; option(2) = 200; option(3) = 300; option(4) = 400; option(5) = 500;
                option(6) = 1000;
                option(7) = 1120; option(8) = 1121; option(9) = 1122; option(10) = 1123""")
            .holds("the first and the last one of forty", Games.EVERYTHING_POSSIBLE + """
                option(0) = 0; option(5) = 500; option(6) = 600; option(7) = 700; option(8) = 801; option(10) = 803;
                option(11) = 900;
                option(18) = 907; option(19) = 1000; option(20) = 1101; option(23) = 1104; option(24) = 1105;
                option(25) = 1107; option(39) = 1123""")
            .refuses("-1 and 11, and beyond", "possible() = 11", INDEX, Games.calls("option(%d)", -1, 11, 12, 40,
                LEAST, MOST))
            .refuses("40 of forty", Games.EVERYTHING_POSSIBLE, INDEX, Games.calls("option(%d)", -1, 40, 41));
        Sentence.of(promise, "Returns 100 * space + choice.")
            .holds("no choice, and a choice of one and of two digits", Games.EVERYTHING_POSSIBLE + """
                option(0) = 0; option(9) = 802; option(12) = 901; option(22) = 1103; option(27) = 1109;
                option(28) = 1110""");
        Sentence.of(promise, "Throws IndexOutOfBoundsException if there is no such placement")
            .refuses("one placement is possible", Games.onePlacementLeft(8), INDEX, "option(1)", "option(-1)")
            .refuses("none is possible", Games.twoWorkersStuck(8), INDEX, "option(0)", "option(-1)", "option(1)")
            .refuses("the game is over", Games.OVER, INDEX, "option(0)", "option(-1)", "option(2147483647)");
    }
}
