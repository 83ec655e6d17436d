/** Promises 26 and 27: undo and digest. */
public final class UndoTest {
    public static void main(String[] args) {
        undo();
        digest();
        Script.end();
    }

    private static void undo() {
        Script.run("26 undo", """
            undo() = throws IllegalStateException; digest() = any; place(0, 0) = 1; undo() = 0; digest() = same;
            undo() = throws IllegalStateException; digest() = same""");
        Script.run("26 four states are kept", """
            place(0, 0) = 1; place(1, 0) = 0; place(2, 0) = 1; place(3, 0) = 0; place(4, 0) = 1; place(5, 0) = 0;
            moves() = 6; undo() = 3; moves() = 5; undo() = 2; moves() = 4; round() = 2; undo() = 1; moves() = 3; round() = 1;
            undo() = 0; moves() = 2; goods(0, 0) = 3; goods(1, 1) = 2; goods(0, 2) = 0; inTurn() = 0;
            undo() = throws IllegalStateException; moves() = 2""");
        Script.run("26 undo and go on", """
            place(0, 0) = 1; place(1, 0) = 0; undo() = 1; place(2, 0) = 0; place(3, 0) = 1; undo() = 2; undo() = 1; undo() = 0;
            moves() = 0; place(5, 0) = 1; undo() = 0; goods(0, 3) = 0""");
        Script.run("26 undo of each undoable call", Games.stuckInRoundThree(4) + """
            round() = 3; newGame(2, 2) = 2; undo() = 3; round() = 3; players() = 4; moves() = 24; startPlayer() = 1;
            goods(0, 3) = 1; goods(0, 4) = 1; player(0, 4) = 1; player(0, 5) = 16; owner(4) = 0; space(4, 1) = 2;
            skip() = 1; play(1, 3) = 3; undo() = 3; moves() = 25; undo() = 2; moves() = 24; undo() = 1; undo() = 0;
            undo() = throws IllegalStateException""");
        Script.run("26 play that changes nothing is undoable", Games.OVER + """
            play(1, 1) = 0; play(1, 1) = 0; play(1, 1) = 0; play(1, 1) = 0; play(1, 1) = 0; undo() = 3; undo() = 2; undo() = 1;
            undo() = 0; inTurn() = NONE; undo() = throws IllegalStateException""");
        Script.run("26 undo of the end of a game", """
            newGame(2, 1) = 0; place(0, 0) = 1; place(4, 0) = 0; place(2, 0) = 1; digest() = any; place(4, 0) = NONE;
            undo() = 3; inTurn() = 1; round() = 1; goods(0, 4) = 2; goods(0, 2) = 1; player(0, 4) = 0""");
    }

    private static void digest() {
        UndoSentences.checkDigest("play with depth 2", "newGame(3, 5) = 0; place(0, 0) = 1; place(10, 0) = 2; play(2, 10) = 10", 4, 5);
        UndoSentences.checkDigest("undo of play", "newGame(3, 5) = 0; place(0, 0) = 1; place(10, 0) = 2; play(2, 10) = 10; undo() = 3", 3, 5);
        UndoSentences.checkDigest("play to the end", "newGame(3, 2) = 0; play(1, 10) = any; play(1, 10) = any; play(1, 10) = 0", 4, 2);
        UndoSentences.checkDigest("many moves of four players", "newGame(4, 12) = 0;" + "play(1, 9) = 9;".repeat(5), 4, 12);
        // The value that the fourth of the shared runs gives.
        Script.run("27 digest of a new object", "place(0, 0) = 1; undo() = 0; digest() = 4320237666021021856");
    }
}
