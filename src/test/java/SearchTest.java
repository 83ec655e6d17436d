/** Promises 22 to 25: the search, and the history of moves. */
public final class SearchTest {
    public static void main(String[] args) {
        search();
        history();
        Script.end();
    }

    private static void search() {
        Script.run("22 bestScore and 23 bestPlacement", """
            bestScore(1) = 9; bestPlacement(1, 0) = 500;
            bestScore(2) = 10; bestPlacement(2, 0) = 100; bestPlacement(2, 1) = 905;
            # only two workers are free
            bestScore(3) = 10; bestPlacement(3, 0) = 100; bestPlacement(3, 1) = 905; bestPlacement(3, 2) = NONE""");
        Script.run("22 the search leaves all as it is", """
            digest() = any; bestScore(1) = 9; digest() = same; bestScore(3) = 10; digest() = same; bestPlacement(3, 0) = 100;
            digest() = same; undo() = throws IllegalStateException; moves() = 0; inTurn() = 0; space(0, 0) = 3""");
        Script.run("22 the search feeds at the end of the last round", """
            newGame(2, 1) = 0;
            # 8 points, and 2 food are missing: labour helps most; the pasture's sheep is as good and comes later
            bestScore(1) = 8; bestPlacement(1, 0) = 400; place(4, 0) = 1;
            # one food is missing: the lake comes ahead of the labour
            bestScore(1) = 8; bestPlacement(1, 0) = 200""");
        Script.run("22 the search does not feed in an odd round that is not the last one", """
            newGame(2, 2) = 0; bestScore(1) = 9; bestPlacement(1, 0) = 500""");
        Script.run("22 the search breeds, and lets grain spoil", """
            place(5, 0) = 1; place(4, 0) = 0; place(4, 0) = 1; place(3, 0) = 0;
            # round 2: food for all, and two sheep make a third one
            bestScore(1) = 11; bestPlacement(1, 0) = 500""");
        Script.run("22 the search knows newcomers", """
            place(0, 0) = 1; place(4, 0) = 0; place(9, 4) = 1; place(4, 0) = 0;
            # 9 points before; of two sheep one is eaten, but with the food of the lake they become three
            bestScore(1) = 10; bestPlacement(1, 0) = 500; bestScore(2) = 12; bestPlacement(2, 0) = 300;
            bestPlacement(2, 1) = 500; place(7, 0) = 1; place(5, 0) = 0;
            # 12 points with the newcomer; 5 food are needed, and there are 4 with the lake or with labour
            bestScore(1) = 9; bestPlacement(1, 0) = 300""");
        Script.run("22 nothing is best when the game is over", Games.OVER + """
            bestScore(1) = NONE; bestScore(2) = NONE; bestScore(3) = NONE; bestPlacement(1, 0) = NONE;
            bestPlacement(3, 2) = NONE; bestScore(4) = throws IllegalArgumentException;
            bestPlacement(3, 3) = throws IllegalArgumentException""");
        Script.run("22 nothing is best without a possible placement", Games.stuckInRoundThree(4) + """
            bestScore(1) = NONE; bestScore(2) = NONE; bestScore(3) = NONE; bestPlacement(1, 0) = NONE; bestPlacement(2, 1) = NONE""");
        Script.run("22 bestScore throws", """
            bestScore(0) = throws IllegalArgumentException; bestScore(4) = throws IllegalArgumentException;
            bestScore(-2147483648) = throws IllegalArgumentException""");
        Script.run("23 bestPlacement throws", """
            bestPlacement(0, 0) = throws IllegalArgumentException; bestPlacement(4, 0) = throws IllegalArgumentException;
            bestPlacement(1, 1) = throws IllegalArgumentException; bestPlacement(2, 2) = throws IllegalArgumentException;
            bestPlacement(3, 3) = throws IllegalArgumentException; bestPlacement(3, -1) = throws IllegalArgumentException""");
    }

    private static void history() {
        Script.run("24 moves and 25 move", """
            moves() = 0; place(0, 0) = 1; moves() = 1; place(4, 0) = 0; place(9, 6) = 1; moves() = 3; place(11, 21) = 0;
            place(2, 0) = 1; moves() = 5;
            move(0, 0) = 1; move(0, 1) = 0; move(0, 2) = 0; move(0, 3) = 0;
            move(2, 0) = 1; move(2, 1) = 0; move(2, 2) = 9; move(2, 3) = 6;
            move(3, 1) = 1; move(3, 2) = 11; move(3, 3) = 21; move(4, 0) = 2; move(4, 1) = 0; move(4, 2) = 2;
            undo() = 3; moves() = 4; newGame(2, 6) = 1; moves() = 0; move(0, 0) = throws IndexOutOfBoundsException;
            undo() = 3; moves() = 4; move(3, 3) = 21""");
        Script.run("24 the latest 30 moves are kept", """
            newGame(4, 12) = 0;
            place(0, 0) = 1; place(1, 0) = 2; place(2, 0) = 3; place(3, 0) = 0;
            place(4, 0) = 1; place(4, 0) = 2; place(5, 0) = 3; place(10, 0) = 3;
            # round 2 begins with player 3
            play(1, 10) = 10; play(1, 10) = 10; moves() = 28; place(10, 0) = any; moves() = 29; play(1, 1) = 1;
            moves() = 30; move(0, 2) = 0; move(1, 2) = 1; play(1, 1) = 1; moves() = 30; move(0, 2) = 1; move(1, 2) = 2;
            move(6, 2) = 10; move(6, 1) = 3; move(7, 0) = 2; move(30, 0) = throws IndexOutOfBoundsException;
            play(1, 6) = 6; moves() = 30; move(0, 2) = 10; move(0, 0) = 1; move(1, 0) = 2; undo() = any; move(0, 2) = 1;
            undo() = any; move(0, 2) = 0; moves() = 30""");
        Script.run("25 move throws", """
            move(0, 0) = throws IndexOutOfBoundsException; move(0, 4) = throws IndexOutOfBoundsException;
            place(0, 0) = 1; move(0, 4) = throws IllegalArgumentException; move(0, -1) = throws IllegalArgumentException;
            move(1, 0) = throws IndexOutOfBoundsException; move(-1, 0) = throws IndexOutOfBoundsException;
            move(1, 4) = throws IndexOutOfBoundsException; move(-1, -1) = throws IndexOutOfBoundsException""");
    }
}
