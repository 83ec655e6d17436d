/** Promises 7 to 21: what the calls tell of the state of the game. */
public final class StateTest {
    public static void main(String[] args) {
        turnsAndRounds();
        goodsAndPlayers();
        buildingsAndSpaces();
        costs();
        feeding();
        scores();
        options();
        Script.end();
    }

    private static void turnsAndRounds() {
        Script.run("7 players", "players() = 2; newGame(3, 1) = 0; players() = 3; newGame(4, 1) = 0; players() = 4");
        Script.run("8 round", """
            round() = 1; place(0, 0) = 1; place(1, 0) = 0; place(2, 0) = 1; round() = 1; place(3, 0) = 0; round() = 2""");
        Script.run("8 round of a game that is over", Games.OVER + "round() = 2");
        Script.run("8 round of a game of twelve rounds that is over", """
            newGame(2, 12) = 0; play(1, 10) = 10; play(1, 10) = 10; play(1, 10) = 10; play(1, 10) = any; play(1, 10) = any;
            play(1, 10) = any; play(1, 10) = any; play(1, 10) = any; play(1, 10) = any; play(1, 10) = any; play(1, 10) = any;
            round() = 13; inTurn() = NONE""");
        Script.run("9 inTurn", """
            newGame(3, 1) = 0; inTurn() = 0; place(0, 0) = 1; inTurn() = 1; place(1, 0) = 2; inTurn() = 2;
            place(2, 0) = 0; inTurn() = 0""");
        Script.run("9 inTurn of a game that is over", Games.OVER + "inTurn() = NONE");
        Script.run("10 startPlayer", """
            startPlayer() = 0; place(0, 0) = 1; startPlayer() = 0; place(10, 0) = 0; startPlayer() = 1""");
        Script.run("10 startPlayer stays when the game is over", """
            newGame(2, 1) = 0; place(0, 0) = 1; place(10, 0) = 0; place(2, 0) = 1; place(4, 0) = NONE; startPlayer() = 1""");
    }

    private static void goodsAndPlayers() {
        Script.run("11 goods", """
            place(0, 0) = 1; place(1, 0) = 0; place(2, 0) = 1; goods(0, 0) = 3; goods(0, 2) = 1; goods(0, 4) = 2;
            goods(1, 1) = 2; goods(1, 0) = 0; goods(1, 3) = 0; place(5, 0) = 0; goods(1, 3) = 1""");
        Script.run("11 goods throws", """
            goods(2, 0) = throws IndexOutOfBoundsException; goods(-1, 0) = throws IndexOutOfBoundsException;
            goods(0, 5) = throws IllegalArgumentException; goods(0, -1) = throws IllegalArgumentException;
            goods(2, 5) = throws IndexOutOfBoundsException; goods(-2147483648, -1) = throws IndexOutOfBoundsException;
            newGame(3, 1) = 0; goods(2, 4) = 3; goods(3, 4) = throws IndexOutOfBoundsException;
            newGame(4, 1) = 0; goods(3, 4) = 3; goods(4, 4) = throws IndexOutOfBoundsException""");
        Script.run("12 player", Games.stuckInRoundThree(4) + """
            player(0, 0) = 3; player(0, 1) = 0; player(0, 2) = 1; player(0, 3) = 2; player(0, 4) = 1; player(0, 5) = 16;
            player(1, 0) = 2; player(1, 2) = 0; player(1, 4) = 0; player(1, 5) = 0; player(3, 0) = 2""");
        Script.run("12 player throws", """
            player(2, 0) = throws IndexOutOfBoundsException; player(-1, 0) = throws IndexOutOfBoundsException;
            player(0, 6) = throws IllegalArgumentException; player(0, -1) = throws IllegalArgumentException;
            player(2, 6) = throws IndexOutOfBoundsException; player(2147483647, 0) = throws IndexOutOfBoundsException""");
    }

    private static void buildingsAndSpaces() {
        Script.run("13 owner", """
            owner(7) = NONE; place(1, 0) = 1; place(0, 0) = 0; place(9, 7) = 1; owner(7) = 0; place(9, 6) = 0; owner(6) = 1;
            owner(5) = NONE; newGame(2, 6) = 1; owner(6) = NONE; owner(7) = NONE""");
        Script.run("13 owner throws", """
            owner(8) = throws IndexOutOfBoundsException; owner(-1) = throws IndexOutOfBoundsException;
            owner(2147483647) = throws IndexOutOfBoundsException; owner(-2147483648) = throws IndexOutOfBoundsException;
            owner(32) = throws IndexOutOfBoundsException""");
        Script.run("14 space", """
            space(0, 2) = 1; space(1, 2) = 1; space(2, 2) = 1; space(3, 2) = 1; space(4, 2) = 2; space(5, 2) = 1;
            space(6, 2) = 1; space(7, 2) = 1; space(8, 2) = 1; space(9, 2) = 2; space(10, 2) = 1; space(11, 2) = 2;
            space(4, 0) = 0; space(4, 1) = 0; space(4, 3) = NONE;
            place(0, 0) = 1; place(4, 0) = 0; space(4, 1) = 1; space(4, 3) = 1; place(4, 0) = 1; space(4, 1) = 2;
            space(4, 3) = 1; space(0, 3) = 0; space(0, 0) = 0; space(0, 1) = 1; place(2, 0) = 0;
            space(4, 1) = 0; space(4, 3) = NONE; space(0, 0) = 3; space(1, 0) = 4; space(3, 0) = 2; space(5, 0) = 2;
            space(2, 0) = 0""");
        Script.run("14 space throws", """
            space(12, 0) = throws IndexOutOfBoundsException; space(-1, 0) = throws IndexOutOfBoundsException;
            space(0, 4) = throws IllegalArgumentException; space(0, -1) = throws IllegalArgumentException;
            space(12, 4) = throws IndexOutOfBoundsException""");
    }

    private static void costs() {
        Script.run("15 cost without buildings", """
            cost(0, -1, 0) = 4; cost(0, -1, 1) = 1;
            cost(0, 0, 0) = 0; cost(0, 0, 1) = 3; cost(0, 1, 0) = 2; cost(0, 1, 1) = 1; cost(0, 2, 0) = 2; cost(0, 2, 1) = 0;
            cost(0, 3, 0) = 1; cost(0, 3, 1) = 1; cost(0, 4, 0) = 3; cost(0, 4, 1) = 0; cost(0, 5, 0) = 0; cost(0, 5, 1) = 2;
            cost(0, 6, 0) = 1; cost(0, 6, 1) = 0; cost(0, 7, 0) = 0; cost(0, 7, 1) = 1; cost(1, 4, 0) = 3""");
        Script.run("15 cost with the carpenter, and with the kiln", """
            place(0, 0) = 1; place(1, 0) = 0; place(9, 6) = 1; place(9, 7) = 0;
            cost(0, -1, 0) = 3; cost(0, -1, 1) = 1; cost(0, 0, 0) = 0; cost(0, 0, 1) = 3; cost(0, 1, 0) = 1; cost(0, 1, 1) = 1;
            cost(0, 2, 0) = 1; cost(0, 3, 0) = 0; cost(0, 4, 0) = 2; cost(0, 5, 0) = 0; cost(0, 6, 0) = 1; cost(0, 7, 0) = 0;
            cost(0, 7, 1) = 1; cost(0, 6, 1) = 0;
            cost(1, -1, 0) = 4; cost(1, -1, 1) = 0; cost(1, 0, 1) = 2; cost(1, 1, 1) = 0; cost(1, 2, 1) = 0; cost(1, 3, 1) = 0;
            cost(1, 5, 1) = 1; cost(1, 7, 1) = 1; cost(1, 6, 0) = 1; cost(1, 6, 1) = 0; cost(1, 4, 0) = 3""");
        Script.run("15 cost throws", """
            cost(2, 0, 0) = throws IndexOutOfBoundsException; cost(-1, 0, 0) = throws IndexOutOfBoundsException;
            cost(0, 8, 0) = throws IllegalArgumentException; cost(0, -2, 0) = throws IllegalArgumentException;
            cost(0, 0, 2) = throws IllegalArgumentException; cost(0, 0, -1) = throws IllegalArgumentException;
            cost(2, 8, 2) = throws IndexOutOfBoundsException; cost(0, 2147483647, 0) = throws IllegalArgumentException;
            cost(0, -2147483648, 1) = throws IllegalArgumentException""");
    }

    private static void feeding() {
        Script.run("16 need", """
            need(0) = 4; need(1) = 4; place(0, 0) = 1; place(4, 0) = 0; place(9, 4) = 1; place(4, 0) = 0;
            place(7, 0) = 1; need(0) = 5; need(1) = 4; place(4, 0) = 0; place(4, 0) = 1; place(2, 0) = 0; need(0) = 6""");
        Script.run("16 need throws", """
            need(2) = throws IndexOutOfBoundsException; need(-1) = throws IndexOutOfBoundsException;
            newGame(3, 1) = 0; need(2) = 4; need(3) = throws IndexOutOfBoundsException""");
        Script.run("17 missing", """
            missing(0) = 2; missing(1) = 1; place(2, 0) = 1; missing(0) = 1; place(5, 0) = 0; missing(1) = 0;
            place(10, 0) = 1; missing(0) = 0; goods(0, 2) = 2; goods(0, 4) = 2; goods(1, 3) = 1""");
        Script.run("17 missing with the smokehouse", """
            place(0, 0) = 1; place(11, 22) = 0; place(1, 0) = 1; place(8, 1) = 0; goods(1, 4) = 4;
            place(11, 23) = 1; goods(0, 4) = 0; missing(0) = 2; place(4, 0) = 0; place(9, 3) = 1; missing(0) = 0;
            goods(0, 3) = 1; place(2, 0) = 0; goods(0, 3) = 0; goods(0, 4) = 0; player(0, 4) = 0""");
        Script.run("17 missing throws", """
            missing(2) = throws IndexOutOfBoundsException; missing(-1) = throws IndexOutOfBoundsException""");
    }

    private static void scores() {
        Script.run("18 score", """
            score(0, 0) = 6; score(0, 1) = 2; score(0, 2) = 0; score(0, 3) = 0; score(0, 4) = 0; score(0, 5) = 0;
            score(0, 6) = 8; place(2, 0) = 1; score(0, 3) = 0; place(5, 0) = 0; score(1, 2) = 1; score(1, 6) = 9;
            place(10, 0) = 1; score(0, 3) = 1; score(0, 6) = 9""");
        Script.run("18 score of buildings", """
            place(0, 0) = 1; place(1, 0) = 0; place(9, 6) = 1; score(0, 4) = 1; place(9, 5) = 0; score(1, 4) = 2;
            place(9, 2) = 1; score(0, 4) = 2; place(1, 0) = 0; place(0, 0) = 1; place(9, 7) = 0; score(1, 4) = 3;
            score(0, 0) = 6; score(0, 1) = 2""");
        Script.run("18 score of begging tokens and of a family of three", Games.stuckInRoundThree(4) + """
            score(0, 0) = 9; score(0, 1) = 2; score(0, 2) = 1; score(0, 3) = 0; score(0, 4) = 1; score(0, 5) = -3;
            score(0, 6) = 10""");
        Script.run("18 score throws", """
            score(2, 0) = throws IndexOutOfBoundsException; score(-1, 0) = throws IndexOutOfBoundsException;
            score(0, 7) = throws IllegalArgumentException; score(0, -1) = throws IllegalArgumentException;
            score(2, 7) = throws IndexOutOfBoundsException""");
        Script.run("18 score counts five sheep at most", """
            newGame(2, 12) = 0;
            place(2, 0) = 1; place(4, 0) = 0; place(10, 0) = 1; place(4, 0) = 0;
            place(3, 0) = 1; place(4, 0) = 0; place(2, 0) = 1; place(4, 0) = 0;
            place(2, 0) = 1; place(4, 0) = 0; place(10, 0) = 1; place(4, 0) = 0;
            place(8, 3) = 1; place(4, 0) = 0; place(5, 0) = 1; place(4, 0) = 0;
            # four sheep of four rounds, and one that was born
            round() = 5; goods(0, 3) = 5; score(0, 2) = 5; goods(0, 4) = 5;
            place(5, 0) = 1; place(4, 0) = 0; goods(0, 3) = 6; score(0, 2) = 5; score(0, 6) = 13""");
        Script.run("19 rank", """
            rank(0) = 2; rank(1) = 1; place(3, 0) = 1; rank(0) = 1; rank(1) = 1; place(5, 0) = 0; rank(0) = 2; rank(1) = 1;
            place(4, 0) = 1; rank(0) = 2; newGame(4, 2) = 0; rank(0) = 4; rank(1) = 1; rank(2) = 1; rank(3) = 1;
            place(5, 0) = 1; rank(0) = 1; rank(1) = 2; rank(3) = 2""");
        Script.run("19 rank throws", """
            rank(2) = throws IndexOutOfBoundsException; rank(-1) = throws IndexOutOfBoundsException;
            newGame(4, 1) = 0; rank(3) = 1; rank(4) = throws IndexOutOfBoundsException""");
    }

    private static void options() {
        Script.run("20 possible and 21 option", """
            possible() = 11;
            option(0) = 0; option(1) = 100; option(2) = 200; option(3) = 300; option(4) = 400; option(5) = 500;
            option(6) = 1000; option(7) = 1120; option(8) = 1121; option(9) = 1122; option(10) = 1123;
            option(11) = throws IndexOutOfBoundsException; option(-1) = throws IndexOutOfBoundsException;
            option(2147483647) = throws IndexOutOfBoundsException;
            place(2, 0) = 1; possible() = 10; option(2) = 300; place(0, 0) = 0;
            # a grain for the mill, and no forest and no field
            possible() = 10; option(0) = 100; option(4) = 801; option(5) = 1000""");
        Script.run("21 option of buildings and growth", """
            place(0, 0) = 1; place(4, 0) = 0; place(1, 0) = 1; place(2, 0) = 0; round() = 2;
            # 3 wood and 2 clay: all buildings but the oven; wood, clay and food go to the market
            possible() = 26; option(6) = 901; option(12) = 907; option(13) = 1000; option(14) = 1101; option(18) = 1105;
            place(9, 4) = 1; place(9, 2) = throws IllegalStateException; place(4, 0) = 0;
            option(6) = 700; reason(9, 5) = 0; place(9, 5) = 1; reason(9, 7) = 2""");
        Script.run("20 possible with everything that there is", """
            newGame(2, 12) = 0;
            place(0, 0) = 1; place(4, 0) = 0; place(1, 0) = 1; place(4, 0) = 0;
            place(0, 0) = 1; place(4, 0) = 0; place(3, 0) = 1; place(4, 0) = 0;
            place(6, 0) = 1; place(4, 0) = 0; place(0, 0) = 1; place(4, 0) = 0;
            place(5, 0) = 1; place(4, 0) = 0; place(4, 0) = 1; place(0, 0) = 0;
            place(1, 0) = 1; place(4, 0) = 0; place(10, 0) = 1; place(4, 0) = 0;
            place(2, 0) = 1; place(4, 0) = 0; place(3, 0) = 1; place(4, 0) = 0;
            place(2, 0) = 1; place(4, 0) = 0; place(4, 0) = 1; place(0, 0) = 0;
            goods(0, 0) = 5; goods(0, 1) = 9; goods(0, 2) = 3; goods(0, 3) = 5; goods(0, 4) = 2; player(0, 3) = 3;
            possible() = 40; option(6) = 600; option(7) = 700; option(8) = 801; option(10) = 803; option(11) = 900;
            option(18) = 907; option(19) = 1000; option(20) = 1101; option(24) = 1105; option(39) = 1123;
            option(40) = throws IndexOutOfBoundsException""");
        Script.run("20 possible when the game is over", Games.OVER + """
            possible() = 0; option(0) = throws IndexOutOfBoundsException""");
    }
}
