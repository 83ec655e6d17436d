/** The four examples of the document, in its words. */
public final class ExamplesTest {
    public static void main(String[] args) {
        Script.run("example 1", """
            goods(1, 4) = 3; space(0, 0) = 3; place(0, 0) = 1; goods(0, 0) = 3; reason(0, 0) =
            2; place(4, 0) = 0; place(9, 6) = 1; cost(0, -1, 0) = 3; place(4, 0) = 0; round() = 2; inTurn() = 0; space(0, 0) =
            3; missing(0) = 2""");
        Script.run("example 2", """
            reason(7, 0) = 3; reason(6, 0) = 5; reason(8, 0) = 4; reason(11, 6) = 4; possible() = 11;
            bestScore(2) = 10; bestPlacement(2, 0) = 100; play(2, 1) = 1; move(0, 2) = 1; place(7, 0) = throws
            IllegalStateException""");
        Script.run("example 3", """
            newGame(3, 2) = 0; place(10, 0) = 1; place(2, 0) = 2; place(1, 0) = 0; place(3, 0) = 1; place(5,
            0) = 2; place(4, 0) = 0; round() = 2; startPlayer() = 0; reason(8, 1) = 0; place(8, 1) = 1; goods(0, 4) = 6""");
        Script.run("example 4", """
            newGame(2, 1) = 0; play(1, 10) = 4; round() = 2; inTurn() = -1;
            score(0, 6) = 9; rank(0) = 1; rank(1) = 2; place(0, 0) = throws IllegalStateException""");
        Script.end();
    }
}
