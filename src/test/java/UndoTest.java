/** Promises 26 and 27: undo and digest. */
public final class UndoTest {
    public static void main(String[] args) {
        undo();
        digest();
        Script.end();
    }

    private static void undo() {
        Script.run("26 undo", """
            undo() = throws IllegalStateException; digest() = any; place(0, 0) = 1; undo() = 0; digest() = same;
            undo() = throws IllegalStateException; digest() = same""");
        Script.run("26 four states are kept", """
            place(0, 0) = 1; place(1, 0) = 0; place(2, 0) = 1; place(3, 0) = 0; place(4, 0) = 1; place(5, 0) = 0;
            moves() = 6; undo() = 3; moves() = 5; undo() = 2; moves() = 4; round() = 2; undo() = 1; moves() = 3; round() = 1;
            undo() = 0; moves() = 2; goods(0, 0) = 3; goods(1, 1) = 2; goods(0, 2) = 0; inTurn() = 0;
            undo() = throws IllegalStateException; moves() = 2""");
        Script.run("26 undo and go on", """
            place(0, 0) = 1; place(1, 0) = 0; undo() = 1; place(2, 0) = 0; place(3, 0) = 1; undo() = 2; undo() = 1; undo() = 0;
            moves() = 0; place(5, 0) = 1; undo() = 0; goods(0, 3) = 0""");
        Script.run("26 undo of each undoable call", GameTest.TO_A_SKIP + """
            round() = 3; newGame(2, 2) = 2; undo() = 3; round() = 3; players() = 4; moves() = 24; startPlayer() = 1;
            goods(0, 3) = 1; goods(0, 4) = 1; player(0, 4) = 1; player(0, 5) = 16; owner(4) = 0; space(4, 1) = 2;
            skip() = 1; play(1, 3) = 3; undo() = 3; moves() = 25; undo() = 2; moves() = 24; undo() = 1; undo() = 0;
            undo() = throws IllegalStateException""");
        Script.run("26 play that changes nothing is undoable", GameTest.TO_THE_END + """
            play(1, 1) = 0; play(1, 1) = 0; play(1, 1) = 0; play(1, 1) = 0; play(1, 1) = 0; undo() = 3; undo() = 2; undo() = 1;
            undo() = 0; inTurn() = NONE; undo() = throws IllegalStateException""");
        Script.run("26 undo of the end of a game", """
            newGame(2, 1) = 0; place(0, 0) = 1; place(4, 0) = 0; place(2, 0) = 1; digest() = any; place(4, 0) = NONE;
            undo() = 3; inTurn() = 1; round() = 1; goods(0, 4) = 2; goods(0, 2) = 1; player(0, 4) = 0""");
    }

    private static void digest() {
        VillageBoard board = new VillageBoard();
        compare("27 digest of a new object", board, 0, 6);
        board.newGame(3, 5);
        compare("27 digest of a new game", board, 1, 5);
        board.place(0, 0);
        board.place(10, 0);
        compare("27 digest after placements", board, 3, 5);
        board.play(2, 10);
        board.play(2, 10);
        compare("27 digest after play", board, 4, 5);
        board.undo();
        compare("27 digest after undo", board, 3, 5);
        board.play(1, 10);
        board.play(1, 10);
        board.play(1, 10);
        compare("27 digest after the end", board, 4, 5);
        board.newGame(4, 12);
        for (int i = 0; i < 5; i++) {
            board.play(1, 9);
            compare("27 digest with many moves", board, 4, 12);
        }
        Script.check("27 digest changes nothing", board.digest() == board.digest());
        // The value that the fourth of the shared runs gives.
        Script.run("27 digest of a new object", "place(0, 0) = 1; undo() = 0; digest() = 4320237666021021856");
    }

    private static void compare(String name, VillageBoard board, int states, int rounds) {
        Script.check(name, board.digest() == recomputed(board, states, rounds));
    }

    private static long recomputed(VillageBoard board, int states, int rounds) {
        long h = hash(18482, states, board.players(), board.round(), rounds, board.inTurn(), board.startPlayer());
        for (int p = 0; p < board.players(); p++) {
            for (int good = 0; good <= 4; good++) {
                h = hash(h, board.goods(p, good));
            }
            for (int what = 0; what <= 5; what++) {
                h = hash(h, board.player(p, what));
            }
            h = hash(h, board.need(p), board.missing(p));
            for (int part = 0; part <= 6; part++) {
                h = hash(h, board.score(p, part));
            }
            h = hash(h, board.rank(p));
        }
        for (int space = 0; space <= 11; space++) {
            for (int what = 0; what <= 3; what++) {
                h = hash(h, board.space(space, what));
            }
        }
        h = hash(h, board.possible(), board.bestScore(1), board.bestPlacement(1, 0), board.moves());
        for (int index = 0; index < board.moves(); index++) {
            for (int what = 0; what <= 3; what++) {
                h = hash(h, board.move(index, what));
            }
        }
        return h;
    }

    private static long hash(long h, int... values) {
        long mixed = h;
        for (int v : values) {
            mixed = 31 * mixed + v;
        }
        return mixed;
    }
}
