/** Promises 1 to 6: a new object, newGame, reason, place, skip and play. */
public final class GameTest {
    public static void main(String[] args) {
        aNewObject();
        newGame();
        reason();
        placeTakesAndGives();
        placeWithBuildings();
        placeUpToTheLimits();
        placeEndsRounds();
        placeThrows();
        skip();
        play();
        Script.end();
    }

    private static void aNewObject() {
        Script.run("1 a new object", """
            players() = 2; round() = 1; inTurn() = 0; startPlayer() = 0;
            goods(0, 0) = 0; goods(0, 1) = 0; goods(0, 2) = 0; goods(0, 3) = 0; goods(0, 4) = 2;
            goods(1, 0) = 0; goods(1, 1) = 0; goods(1, 2) = 0; goods(1, 3) = 0; goods(1, 4) = 3;
            player(0, 0) = 2; player(0, 1) = 0; player(0, 2) = 2; player(0, 3) = 2; player(0, 4) = 0; player(0, 5) = 0;
            player(1, 0) = 2; player(1, 1) = 0; player(1, 2) = 2; player(1, 3) = 2; player(1, 4) = 0; player(1, 5) = 0;
            owner(0) = NONE; owner(7) = NONE;
            space(0, 0) = 3; space(1, 0) = 2; space(2, 0) = 0; space(3, 0) = 1; space(4, 0) = 0; space(5, 0) = 1;
            space(6, 0) = 0; space(11, 0) = 0; space(0, 1) = 0; space(0, 3) = NONE;
            moves() = 0; undo() = throws IllegalStateException;
            # six rounds of four placements
            play(1, 10) = 10; play(1, 10) = any; play(1, 10) = any; play(1, 10) = any; play(1, 10) = any;
            round() = 7; inTurn() = NONE""");
    }

    private static void newGame() {
        Script.run("2 newGame returns the finished rounds", """
            newGame(2, 2) = 0; place(0, 0) = 1; newGame(2, 2) = 0;
            place(0, 0) = 1; place(4, 0) = 0; place(2, 0) = 1; newGame(2, 2) = 0;
            place(0, 0) = 1; place(4, 0) = 0; place(2, 0) = 1; place(4, 0) = 0; newGame(3, 1) = 1;
            place(0, 0) = 1; place(1, 0) = 2; place(2, 0) = 0; place(3, 0) = 1; place(4, 0) = 2; place(5, 0) = NONE;
            round() = 2; newGame(2, 12) = 1; newGame(4, 1) = 0; players() = 4;
            goods(0, 4) = 2; goods(1, 4) = 3; goods(2, 4) = 3; goods(3, 4) = 3""");
        Script.run("2 newGame leaves nothing of the game before", Games.stuckInRoundThree(4) + """
            startPlayer() = 1; newGame(4, 6) = 2; startPlayer() = 0; inTurn() = 0; round() = 1; moves() = 0;
            player(0, 0) = 2; player(0, 1) = 0; player(0, 2) = 2; player(0, 3) = 2; player(0, 4) = 0; player(0, 5) = 0;
            owner(4) = NONE; goods(0, 0) = 0; goods(0, 3) = 0; goods(0, 4) = 2; goods(1, 0) = 0; goods(1, 2) = 0;
            space(0, 0) = 3; space(1, 0) = 2; space(3, 0) = 1; space(5, 0) = 1; space(4, 1) = 0; space(4, 3) = NONE""");
        Script.run("2 newGame begins with no goods left on spaces", """
            place(2, 0) = 1; place(4, 0) = 0; place(4, 0) = 1; place(10, 0) = 1; space(0, 0) = 6;
            newGame(2, 6) = 1; space(0, 0) = 3; space(1, 0) = 2; space(3, 0) = 1; space(5, 0) = 1""");
        Script.run("2 newGame throws", """
            place(0, 0) = 1; digest() = any;
            newGame(1, 6) = throws IllegalArgumentException; newGame(5, 6) = throws IllegalArgumentException;
            newGame(2, 0) = throws IllegalArgumentException; newGame(2, 13) = throws IllegalArgumentException;
            newGame(-2147483648, 2147483647) = throws IllegalArgumentException;
            digest() = same; undo() = 0""");
        Script.run("2 newGame is undoable", """
            place(0, 0) = 1; newGame(4, 1) = 0; players() = 4; undo() = 1; players() = 2; goods(0, 0) = 3;
            moves() = 1; undo() = 0; goods(0, 0) = 0""");
    }

    private static void reason() {
        Script.run("3 reason", """
            reason(0, 0) = 0; reason(0, 1) = 4; reason(1, -1) = 4; reason(2, 2147483647) = 4; reason(3, -2147483648) = 4;
            reason(4, 1) = 4; reason(5, 1) = 4; reason(6, 1) = 4; reason(6, 0) = 5; reason(10, 1) = 4; reason(10, 0) = 0;
            # not open comes ahead of a wrong choice
            reason(7, 0) = 3; reason(7, 1) = 3;
            reason(8, 0) = 4; reason(8, 1) = 5; reason(8, 3) = 5; reason(8, 4) = 4; reason(8, -1) = 4;
            reason(9, -1) = 4; reason(9, 0) = 5; reason(9, 7) = 5; reason(9, 8) = 4; reason(9, 2147483647) = 4;
            reason(11, -1) = 4; reason(11, 0) = 4; reason(11, 6) = 4; reason(11, 12) = 4; reason(11, 18) = 4;
            reason(11, 24) = 4; reason(11, 25) = 4; reason(11, 23) = 0; reason(11, 20) = 0; reason(11, 1) = 5;
            reason(11, 19) = 5; reason(11, -2147483648) = 4; reason(11, 2147483647) = 4; reason(11, -4) = 4;
            place(0, 0) = 1;
            # occupied comes ahead of a wrong choice
            reason(0, 0) = 2; reason(0, 7) = 2""");
        Script.run("3 reason of places that are two", """
            place(4, 0) = 1; reason(4, 0) = 0; place(4, 0) = 0; reason(4, 0) = 2; reason(4, 9) = 2;
            place(11, 20) = 1; reason(11, 20) = 0; place(11, 21) = 0; round() = 2; reason(11, 1) = 5""");
        Script.run("3 reason of growth", """
            place(0, 0) = 1; place(4, 0) = 0; place(9, 4) = 1; place(4, 0) = 0; round() = 2;
            reason(7, 0) = 0; reason(7, 1) = 4; place(7, 0) = 1;
            # occupied comes ahead of a wrong choice, and of too many members
            reason(7, 0) = 2; reason(7, 1) = 2; place(2, 0) = 0; place(0, 0) = 1; place(10, 0) = 1;
            reason(7, 0) = 5; place(4, 0) = 0; reason(7, 0) = 5""");
        Script.run("3 reason of a building that a player has", """
            place(0, 0) = 1; place(1, 0) = 0; place(9, 6) = 1; reason(9, 6) = 5; reason(9, 7) = 0; reason(9, 5) = 0;
            reason(9, 0) = 5; place(9, 7) = 0; reason(9, 7) = 5; reason(9, 6) = 5; reason(9, 8) = 4; reason(9, 2) = 0""");
        Script.run("3 reason when the game is over", Games.OVER + """
            reason(0, 0) = 1; reason(1, 0) = 1; reason(7, 5) = 1; reason(9, 99) = 1; reason(4, 0) = 1;
            reason(12, 0) = throws IndexOutOfBoundsException; reason(-1, 0) = throws IndexOutOfBoundsException""");
        Script.run("3 reason throws", """
            digest() = any; reason(12, 0) = throws IndexOutOfBoundsException; reason(-1, 0) = throws IndexOutOfBoundsException;
            reason(2147483647, 0) = throws IndexOutOfBoundsException;
            reason(-2147483648, 0) = throws IndexOutOfBoundsException; digest() = same""");
    }

    private static void placeTakesAndGives() {
        Script.run("4 place on spaces with goods", """
            place(0, 0) = 1; goods(0, 0) = 3; space(0, 0) = 0; player(0, 2) = 1;
            place(1, 0) = 0; goods(1, 1) = 2; space(1, 0) = 0;
            place(3, 0) = 1; goods(0, 4) = 3; space(3, 0) = 0;
            place(5, 0) = 0; goods(1, 3) = 1; round() = 2;
            place(2, 0) = 1; goods(0, 2) = 1; place(4, 0) = 0; goods(1, 4) = 5;
            place(10, 0) = 1; goods(0, 2) = 2; place(11, 22) = 0;
            # player 1 ate 3 food and the grain of the market
            goods(1, 4) = 0; goods(1, 2) = 0; player(1, 4) = 0;
            # what was not taken in round 2 lies there with that of round 3
            round() = 3; space(0, 0) = 6; space(1, 0) = 4; space(3, 0) = 2; space(5, 0) = 2;
            place(0, 0) = 1; goods(0, 0) = 9""");
        Script.run("4 place in the market", """
            place(0, 0) = 1; place(11, 20) = 0; goods(1, 4) = 1; goods(1, 0) = 1; goods(1, 3) = 0;
            place(11, 3) = 1; goods(0, 0) = 1; goods(0, 3) = 1; space(11, 3) = 1; space(11, 1) = 2; reason(11, 23) = 2""");
        Script.run("4 place in the mill", """
            place(2, 0) = 1; place(4, 0) = 0; place(10, 0) = 1; place(4, 0) = 0;
            goods(0, 2) = 2; reason(8, 2) = 0; reason(8, 3) = 5; place(8, 2) = 1; goods(0, 2) = 0; goods(0, 4) = 8;
            reason(8, 1) = 2""");
        Script.run("4 place on the mill with the choice 1 and 3", """
            place(2, 0) = 1; place(4, 0) = 0; place(10, 0) = 1; place(4, 0) = 0;
            place(8, 1) = 1; goods(0, 2) = 1; goods(0, 4) = 5; place(4, 0) = 0; place(10, 0) = 1; place(4, 0) = 0;
            goods(0, 2) = 2; goods(0, 4) = 1; place(2, 0) = 1; place(3, 0) = 0; reason(8, 3) = 0; place(8, 3) = 1;
            goods(0, 2) = 0; goods(0, 4) = 10""");
        Script.run("4 place for a room", """
            place(0, 0) = 1; place(4, 0) = 0; place(1, 0) = 1; place(4, 0) = 0; reason(6, 0) = 5;
            place(0, 0) = 1; place(4, 0) = 0; goods(0, 0) = 6; goods(0, 1) = 2; reason(6, 0) = 0;
            place(6, 0) = 1; goods(0, 0) = 2; goods(0, 1) = 1; player(0, 3) = 3; reason(6, 0) = 2""");
        Script.run("4 place for the start marker", """
            place(0, 0) = 1; place(10, 0) = 0; startPlayer() = 1; goods(1, 2) = 1; inTurn() = 0;
            place(2, 0) = 1; place(4, 0) = 1; round() = 2; inTurn() = 1; startPlayer() = 1;
            place(0, 0) = 0; place(10, 0) = 1; startPlayer() = 0; place(4, 0) = 0; place(2, 0) = 0; inTurn() = 0""");
    }

    private static void placeWithBuildings() {
        Script.run("4 the oven", """
            place(1, 0) = 1; place(4, 0) = 0; place(2, 0) = 1; place(4, 0) = 0;
            place(1, 0) = 1; place(3, 0) = 0; place(9, 0) = 1; goods(0, 1) = 1; owner(0) = 0; place(2, 0) = 0;
            # food 2 and grain 1 for 4 leave 1 to beg for
            player(0, 4) = 1; goods(0, 4) = 0; goods(0, 2) = 0; goods(1, 4) = 5;
            place(2, 0) = 1; place(10, 0) = 0; place(8, 1) = 1; goods(0, 4) = 5; goods(0, 2) = 0;
            place(4, 0) = 1; place(8, 2) = 0; goods(1, 4) = 13; goods(1, 2) = 0""");
        Script.run("4 the sawmill", """
            place(0, 0) = 1; place(4, 0) = 0; place(1, 0) = 1; place(4, 0) = 0;
            place(9, 1) = 1; goods(0, 0) = 1; goods(0, 1) = 1; place(4, 0) = 0; place(0, 0) = 1; goods(0, 0) = 5;
            place(2, 0) = 0; place(10, 0) = 1; place(0, 0) = 0; goods(1, 0) = 3""");
        Script.run("4 grain spoils in every round", """
            place(2, 0) = 1; place(4, 0) = 0; place(10, 0) = 1; place(4, 0) = 0;
            place(3, 0) = 1; place(4, 0) = 0; goods(0, 4) = 4; place(2, 0) = 1; place(4, 0) = 0;
            goods(0, 2) = 3; goods(0, 4) = 0; place(2, 0) = 1; place(4, 0) = 0; place(10, 0) = 1; goods(0, 2) = 5;
            place(4, 0) = 0; round() = 4; goods(0, 2) = 3; goods(1, 2) = 0""");
        Script.run("4 the storehouse", """
            place(0, 0) = 1; place(4, 0) = 0; place(9, 2) = 1; goods(0, 0) = 1; place(4, 0) = 0;
            place(3, 0) = 1; place(4, 0) = 0; place(2, 0) = 1; place(4, 0) = 0; goods(0, 2) = 1; goods(0, 4) = 0;
            place(2, 0) = 1; place(4, 0) = 0; place(10, 0) = 1; place(4, 0) = 0; goods(0, 2) = 3;
            place(4, 0) = 1; place(4, 0) = 0; place(3, 0) = 1; place(1, 0) = 0; round() = 5;
            goods(0, 2) = 3; goods(0, 4) = 0; player(0, 4) = 0;
            place(2, 0) = 1; place(4, 0) = 0; place(10, 0) = 1; place(4, 0) = 0; round() = 6; goods(0, 2) = 5""");
        Script.run("4 the smokehouse", """
            place(0, 0) = 1; place(4, 0) = 0; place(1, 0) = 1; place(4, 0) = 0;
            place(9, 3) = 1; goods(0, 0) = 2; goods(0, 1) = 1; place(4, 0) = 0; place(5, 0) = 1; goods(0, 3) = 2;
            place(4, 0) = 0; goods(0, 3) = 1; goods(0, 4) = 2; player(0, 4) = 0""");
        Script.run("4 the bunkhouse", """
            place(0, 0) = 1; place(4, 0) = 0; place(9, 4) = 1; goods(0, 0) = 0; place(4, 0) = 0;
            place(7, 0) = 1; player(0, 0) = 3; player(0, 1) = 1; player(0, 2) = 1; need(0) = 5;
            place(4, 0) = 0; place(4, 0) = 1; place(10, 0) = 1;
            # 5 needed with a newcomer, 4 there
            round() = 3; player(0, 4) = 1; player(0, 1) = 0; player(0, 2) = 3; need(0) = 6;
            place(2, 0) = 0; reason(7, 0) = 5; place(4, 0) = 1; place(3, 0) = 0;
            # player 0 is next after player 0
            place(4, 0) = 0; inTurn() = 0; player(0, 2) = 1; player(1, 2) = 0; place(5, 0) = 1; round() = 4""");
        Script.run("4 the well", """
            place(1, 0) = 1; place(4, 0) = 0; place(9, 5) = 1; goods(0, 1) = 0; goods(0, 4) = 2; place(4, 0) = 0;
            round() = 2; goods(0, 4) = 3; goods(1, 4) = 7; place(2, 0) = 1; place(4, 0) = 0; place(0, 0) = 1; place(4, 0) = 0;
            round() = 3; goods(0, 2) = 0; goods(0, 4) = 1; player(0, 4) = 0""");
        Script.run("4 the carpenter", """
            place(0, 0) = 1; place(4, 0) = 0; place(9, 6) = 1; goods(0, 0) = 2; place(1, 0) = 0;
            place(9, 4) = 1; goods(0, 0) = 0; place(4, 0) = 0; player(0, 5) = 80; place(0, 0) = 1; goods(0, 0) = 3;
            place(9, 7) = 0; place(1, 0) = 1; goods(0, 1) = 4; place(4, 0) = 0; reason(6, 0) = 0; place(6, 0) = 1;
            goods(0, 0) = 0; goods(0, 1) = 3; player(0, 3) = 3""");
        Script.run("4 the kiln", """
            place(1, 0) = 1; place(4, 0) = 0; place(9, 7) = 1; goods(0, 1) = 1; place(4, 0) = 0;
            place(9, 5) = 1; goods(0, 1) = 0; player(0, 5) = 160; place(4, 0) = 0; place(0, 0) = 1; goods(0, 0) = 6;
            place(4, 0) = 0; goods(0, 4) = 1; player(0, 4) = 2;
            place(6, 0) = 1; goods(0, 0) = 2; goods(0, 1) = 0; player(0, 3) = 3""");
    }

    private static void placeUpToTheLimits() {
        Script.run("4 five rooms, and a family of five", """
            newGame(2, 12) = 0;
            place(0, 0) = 1; place(4, 0) = 0; place(1, 0) = 1; place(4, 0) = 0;
            place(0, 0) = 1; place(4, 0) = 0; place(6, 0) = 1; place(4, 0) = 0; player(0, 3) = 3; goods(0, 0) = 2;
            place(0, 0) = 1; place(4, 0) = 0; place(6, 0) = 1; place(4, 0) = 0; player(0, 3) = 4; goods(0, 1) = 0;
            place(0, 0) = 1; place(4, 0) = 0; place(1, 0) = 1; place(4, 0) = 0; goods(0, 1) = 6; player(0, 4) = 6;
            place(6, 0) = 1; place(4, 0) = 0; place(0, 0) = 1; place(4, 0) = 0; player(0, 3) = 5; score(0, 1) = 5;
            # round 6: wood and clay for a room, but no place for it
            place(0, 0) = 1; place(4, 0) = 0; goods(0, 0) = 6; goods(0, 1) = 5; reason(6, 0) = 5;
            place(6, 0) = throws IllegalStateException; place(9, 4) = 1; place(4, 0) = 0; player(0, 4) = 10;
            place(7, 0) = 1; place(4, 0) = 0; place(0, 0) = 1; place(4, 0) = 0; player(0, 0) = 3; player(0, 2) = 3;
            place(7, 0) = 1; place(4, 0) = 0; place(0, 0) = 1; place(4, 0) = 0; need(0) = 7; place(5, 0) = 0;
            # round 9: four of eight sheep gave 8 food for 7, and one was born
            goods(0, 3) = 5; goods(0, 4) = 1; player(0, 4) = 10; player(0, 2) = 4;
            place(7, 0) = 1; place(4, 0) = 0; place(0, 0) = 1; place(4, 0) = 0; place(2, 0) = 0; place(10, 0) = 0;
            # round 10: five members, six beds
            round() = 10; player(0, 0) = 5; player(0, 2) = 5; score(0, 0) = 15; reason(7, 0) = 5; need(0) = 10""");
        Script.run("4 all eight buildings", """
            newGame(2, 12) = 0;
            place(0, 0) = 1; place(4, 0) = 0; place(1, 0) = 1; place(4, 0) = 0;
            place(0, 0) = 1; place(4, 0) = 0; place(1, 0) = 1; place(4, 0) = 0;
            place(0, 0) = 1; place(4, 0) = 0; place(1, 0) = 1; place(4, 0) = 0; goods(0, 0) = 9; goods(0, 1) = 6;
            place(9, 0) = 1; score(0, 4) = 2; place(4, 0) = 0; place(1, 0) = 1; place(4, 0) = 0; goods(0, 1) = 5;
            place(9, 1) = 1; score(0, 4) = 4; place(4, 0) = 0; place(9, 2) = 1; score(0, 4) = 5;
            reason(9, 6) = 2; reason(9, 8) = 2; place(4, 0) = 0; goods(0, 0) = 5; goods(0, 1) = 4;
            place(9, 3) = 1; score(0, 4) = 6; place(4, 0) = 0; place(9, 4) = 1; score(0, 4) = 7; place(4, 0) = 0;
            goods(0, 0) = 1; goods(0, 1) = 3;
            place(9, 5) = 1; score(0, 4) = 9; place(4, 0) = 0; place(9, 6) = 1; score(0, 4) = 10; place(4, 0) = 0;
            goods(0, 0) = 0; goods(0, 1) = 1; player(0, 5) = 127;
            place(9, 7) = 1; score(0, 4) = 11; goods(0, 1) = 0; player(0, 5) = 255; owner(0) = 0; owner(7) = 0;
            reason(9, 0) = 5; reason(9, 7) = 5""");
    }

    private static void placeEndsRounds() {
        Script.run("4 feeding pays food, then grain, then sheep", """
            place(2, 0) = 1; place(4, 0) = 0; place(0, 0) = 1; place(4, 0) = 0;
            place(5, 0) = 1; goods(0, 3) = 2; place(4, 0) = 0; place(1, 0) = 1; place(4, 0) = 0;
            # 2 food, 1 grain and a sheep, of which 1 food is kept; the other sheep is too lonely to breed
            goods(0, 4) = 1; goods(0, 2) = 0; goods(0, 3) = 1; player(0, 4) = 0; round() = 3""");
        Script.run("4 feeding begs for what is missing", """
            place(0, 0) = 1; place(4, 0) = 0; place(1, 0) = 1; place(4, 0) = 0;
            place(0, 0) = 1; place(4, 0) = 0; missing(0) = 2; place(1, 0) = 1; place(4, 0) = 0;
            player(0, 4) = 2; goods(0, 4) = 0; score(0, 5) = -6; score(0, 6) = 2;
            # an odd round is without feeding
            place(0, 0) = 1; place(4, 0) = 0; place(1, 0) = 1; place(4, 0) = 0; player(0, 4) = 2; round() = 4;
            place(0, 0) = 1; place(4, 0) = 0; place(1, 0) = 1; place(4, 0) = 0; player(0, 4) = 6""");
        Script.run("4 breeding in rounds with feeding alone", """
            place(2, 0) = 1; place(5, 0) = 0; place(4, 0) = 1; place(4, 0) = 0;
            place(4, 0) = 1; place(5, 0) = 0; goods(1, 3) = 2; place(2, 0) = 1; place(4, 0) = 0;
            goods(1, 3) = 3; goods(1, 4) = 3; place(2, 0) = 1; place(4, 0) = 0; place(10, 0) = 1; place(4, 0) = 0;
            round() = 4; goods(1, 3) = 3; goods(1, 4) = 7;
            place(4, 0) = 1; place(0, 0) = 0; place(2, 0) = 1; place(1, 0) = 0; goods(1, 3) = 4; goods(1, 4) = 3""");
        Script.run("4 the last round feeds though it is odd", """
            newGame(2, 1) = 0; place(5, 0) = 1; place(4, 0) = 0; place(0, 0) = 1; place(4, 0) = NONE;
            round() = 2; inTurn() = NONE; goods(0, 3) = 0; goods(0, 4) = 0; player(0, 4) = 0; goods(1, 4) = 3;
            # all stays as it is then
            space(0, 0) = 0; space(1, 0) = 2; space(3, 0) = 1; space(0, 1) = 1; space(0, 3) = 0; space(4, 1) = 2;
            space(4, 3) = 1; player(0, 2) = 0; player(1, 2) = 0""");
        Script.run("4 newcomers are such when the game is over", """
            newGame(2, 2) = 0; place(0, 0) = 1; place(4, 0) = 0; place(9, 4) = 1; place(4, 0) = 0;
            place(7, 0) = 1; place(4, 0) = 0; place(4, 0) = 1; place(2, 0) = NONE;
            player(0, 0) = 3; player(0, 1) = 1; player(0, 2) = 0; need(0) = 5; missing(0) = 5; player(0, 4) = 1""");
        Script.run("4 three players take turns", """
            newGame(3, 2) = 0; place(0, 0) = 1; place(1, 0) = 2; place(10, 0) = 0; place(2, 0) = 1; place(3, 0) = 2;
            place(4, 0) = 2; round() = 2; inTurn() = 2; place(0, 0) = 0; place(1, 0) = 1; place(2, 0) = 2""");
    }

    private static void placeThrows() {
        Script.run("4 place throws", """
            digest() = any;
            place(12, 0) = throws IndexOutOfBoundsException; place(-1, 0) = throws IndexOutOfBoundsException;
            place(7, 0) = throws IllegalStateException; place(8, 1) = throws IllegalStateException;
            place(0, 1) = throws IllegalStateException; place(9, 8) = throws IllegalStateException;
            place(11, 24) = throws IllegalStateException; place(11, 2147483647) = throws IllegalStateException;
            digest() = same; undo() = throws IllegalStateException;
            place(0, 0) = 1; place(0, 0) = throws IllegalStateException; moves() = 1; inTurn() = 1""");
        Script.run("4 place throws when the game is over", Games.OVER + """
            digest() = any; place(1, 0) = throws IllegalStateException; place(12, 0) = throws IndexOutOfBoundsException;
            digest() = same""");
        Script.run("4 place is undoable", """
            digest() = any; place(0, 0) = 1; undo() = 0; digest() = same; goods(0, 0) = 0; space(0, 0) = 3; space(0, 1) = 0;
            space(0, 3) = NONE; inTurn() = 0; player(0, 2) = 2""");
        Script.run("4 place at the end of a round is undone whole", """
            place(0, 0) = 1; place(1, 0) = 0; place(2, 0) = 1; digest() = any; place(10, 0) = 1; round() = 2; undo() = 3;
            round() = 1; inTurn() = 1; startPlayer() = 0; space(0, 0) = 0; space(0, 1) = 1; goods(1, 2) = 0; digest() = same""");
    }

    private static void skip() {
        Script.run("5 skip", Games.stuckInRoundThree(4) + """
            inTurn() = 0; player(0, 2) = 1; possible() = 0; bestScore(1) = NONE; bestPlacement(1, 0) = NONE;
            option(0) = throws IndexOutOfBoundsException; round() = 3; digest() = any;
            skip() = 1; round() = 4; moves() = 25; move(24, 0) = 3; move(24, 1) = 0; move(24, 2) = NONE; move(24, 3) = 0;
            skip() = throws IllegalStateException; undo() = 3; round() = 3; moves() = 24; player(0, 2) = 1; inTurn() = 0""");
        Script.run("5 skip throws", """
            digest() = any; skip() = throws IllegalStateException; digest() = same; undo() = throws IllegalStateException""");
        Script.run("5 skip throws when the game is over", Games.OVER + """
            digest() = any; skip() = throws IllegalStateException; digest() = same""");
    }

    private static void play() {
        Script.run("6 play skips", Games.stuckInRoundThree(4) + """
            play(1, 1) = 1; round() = 4; inTurn() = 1; move(24, 2) = NONE; undo() = 3; round() = 3; play(2, 2) = 2;
            moves() = 26; move(24, 2) = NONE; move(25, 1) = 1""");
        Script.run("6 play of depth 1", """
            bestPlacement(1, 0) = 500; play(1, 1) = 1; move(0, 2) = 5; inTurn() = 1; bestPlacement(1, 0) = 1123; play(1, 1) = 1;
            move(1, 2) = 11; move(1, 3) = 23; move(1, 1) = 1""");
        Script.run("6 play of depth 2 searches again for each placement", """
            bestPlacement(2, 0) = 100; play(2, 3) = 3; move(0, 2) = 1; move(0, 1) = 0; move(1, 1) = 1; move(2, 1) = 0;
            move(2, 2) = 9; move(2, 3) = 5; moves() = 3""");
        Script.run("6 play ends when the game is over, and is one state to undo", """
            newGame(2, 2) = 0; digest() = any; play(2, 10) = 8; round() = 3; inTurn() = NONE; moves() = 8;
            play(2, 10) = 0; play(1, 1) = 0; undo() = 3; inTurn() = NONE; undo() = 2; inTurn() = NONE;
            undo() = 1; round() = 1; moves() = 0; digest() = same; undo() = 0""");
        Script.run("6 play throws", """
            digest() = any;
            play(0, 1) = throws IllegalArgumentException; play(3, 1) = throws IllegalArgumentException;
            play(1, 0) = throws IllegalArgumentException; play(1, 11) = throws IllegalArgumentException;
            play(2147483647, -2147483648) = throws IllegalArgumentException; digest() = same;
            undo() = throws IllegalStateException""");
    }
}
