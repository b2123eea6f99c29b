import java.util.List;

/** Promises 5, 6 and 9 with the terms Board, Moves and Move list. */
public final class MovesTest {
    public static void main(String[] args) {
        readersRefuseWrongIndexes();
        readersChangeNothing();
        menMoveForwardOnly();
        kingsMoveInAllDirections();
        everySquareHasItsNeighbours();
        captureIsCompulsory();
        menCaptureForwardOnly();
        kingsCaptureInAllDirections();
        pathsAreMaximal();
        crowningEndsTheMove();
        kingsPassTheLastRow();
        aPieceIsJumpedOnce();
        theFirstSquareCountsAsEmpty();
        sideIsToldAfterTheEnd();
        Due.finish();
    }

    private static void readersRefuseWrongIndexes() {
        DraughtsEngine engine = new DraughtsEngine(40);
        for (int wrong : Positions.WRONG) {
            Due.is("pieceAt(" + wrong + ")", engine.pieceAt(wrong), -1);
            Due.is("moveLength(" + wrong + ")", engine.moveLength(wrong), -1);
            Due.is("moveSquare(" + wrong + ", 0)", engine.moveSquare(wrong, 0), -1);
            Due.is("moveSquare(0, " + wrong + ")", engine.moveSquare(0, wrong), -1);
        }
        Due.is("pieceAt(32)", engine.pieceAt(32), -1);
        Due.is("moveLength(7)", engine.moveLength(7), -1);
        Due.is("moveSquare(7, 0)", engine.moveSquare(7, 0), -1);
        Due.is("moveSquare(6, 2)", engine.moveSquare(6, 2), -1);
        engine.reset(true);
        Due.is("empty list: moveLength(0)", engine.moveLength(0), -1);
        Due.is("empty list: moveSquare(0, 0)", engine.moveSquare(0, 0), -1);
        engine = Positions.twoKings(4);
        Positions.shuttle(engine, 4);
        Due.is("drawn: moveCount()", engine.moveCount(), 0);
        Due.is("drawn: moveLength(0)", engine.moveLength(0), -1);
        Due.is("drawn: moveSquare(0, 0)", engine.moveSquare(0, 0), -1);
    }

    private static void readersChangeNothing() {
        DraughtsEngine engine = new DraughtsEngine(40);
        engine.play(3);
        engine.search(2);
        List<Integer> before = Due.snapshot(engine);
        Due.unchanged("reading", engine, before);
        for (int code = 0; code <= 4; code++) {
            engine = Positions.of(40, 0, 12, code);
            Due.is("pieceAt(12)", engine.pieceAt(12), code);
        }
    }

    private static void menMoveForwardOnly() {
        Positions.movesAre("black man", Positions.of(40, 0, 17, 1), path(17, 21), path(17, 22));
        Positions.movesAre("white man", Positions.of(40, 1, 17, 3), path(17, 13), path(17, 14));
        Positions.movesAre("two black men", Positions.of(40, 0, 17, 1, 21, 1), path(17, 22), path(21, 24), path(21, 25));
    }

    private static void kingsMoveInAllDirections() {
        Positions.movesAre("black king", Positions.of(40, 0, 17, 2), path(17, 13), path(17, 14), path(17, 21), path(17, 22));
        Positions.movesAre("white king", Positions.of(40, 1, 17, 4), path(17, 13), path(17, 14), path(17, 21), path(17, 22));
        Positions.movesAre("odd row", Positions.of(40, 0, 13, 2), path(13, 8), path(13, 9), path(13, 16), path(13, 17));
        Positions.movesAre("blocked by own", Positions.of(40, 0, 0, 2, 4, 2, 5, 1),
                path(4, 8), path(5, 8), path(5, 9));
    }

    /** A lone king on each square, its moves from the rows and columns of the document. */
    private static void everySquareHasItsNeighbours() {
        for (int square = 0; square < 32; square++) {
            DraughtsEngine engine = Positions.of(40, 0, square, 2);
            int index = 0;
            for (int other = 0; other < 32; other++) {
                boolean near = Math.abs(other / 4 - square / 4) == 1 && Math.abs(column(other) - column(square)) == 1;
                if (near) {
                    Due.is("king on " + square, engine.moveSquare(index, 1), other);
                    index++;
                }
            }
            Due.is("king on " + square, engine.moveCount(), index);
        }
    }

    private static void captureIsCompulsory() {
        DraughtsEngine engine = Positions.of(40, 0, 13, 1, 17, 3, 2, 2, 11, 1);
        Positions.movesAre("only the capture", engine, path(13, 22));
        engine.place(22, 3);
        Positions.movesAre("no landing square", engine, path(2, 6), path(2, 7), path(11, 15), path(13, 16));
        engine = Positions.of(40, 0, 9, 1, 13, 3, 14, 3, 22, 3);
        Positions.movesAre("no rule of the most", engine, path(9, 16), path(9, 18, 25));
    }

    private static void menCaptureForwardOnly() {
        DraughtsEngine engine = Positions.of(40, 0, 17, 1, 13, 3, 14, 3);
        Positions.movesAre("black man, foes behind", engine, path(17, 21), path(17, 22));
        engine = Positions.of(40, 1, 17, 3, 21, 1, 22, 1);
        Positions.movesAre("white man, foes behind", engine, path(17, 13), path(17, 14));
        engine = Positions.of(40, 1, 17, 3, 13, 1, 14, 2);
        Positions.movesAre("white man, foes ahead", engine, path(17, 8), path(17, 10));
        engine = Positions.of(40, 0, 17, 1, 22, 3, 23, 3);
        Positions.movesAre("a man does not turn back", engine, path(17, 26));
    }

    private static void kingsCaptureInAllDirections() {
        DraughtsEngine engine = Positions.of(40, 0, 17, 2, 13, 3, 14, 4, 21, 3, 22, 4);
        Positions.movesAre("black king", engine, path(17, 8), path(17, 10), path(17, 24), path(17, 26));
        engine = Positions.of(40, 1, 17, 4, 13, 1, 14, 2, 21, 1, 22, 2);
        Positions.movesAre("white king", engine, path(17, 8), path(17, 10), path(17, 24), path(17, 26));
        engine = Positions.of(40, 0, 17, 2, 13, 1, 14, 2, 21, 1, 22, 2);
        Positions.movesAre("own pieces are not jumped", engine, path(13, 16), path(14, 9), path(14, 10), path(14, 18),
                path(21, 24), path(21, 25), path(22, 18), path(22, 25), path(22, 26));
    }

    private static void pathsAreMaximal() {
        DraughtsEngine engine = Positions.of(40, 0, 1, 1, 6, 3, 14, 3, 15, 3, 31, 4);
        Positions.movesAre("one jump, then two ways", engine, path(1, 10, 17), path(1, 10, 19));
        engine.place(17, 4);
        Positions.movesAre("one way is barred", engine, path(1, 10, 19));
        engine.place(19, 4);
        Positions.movesAre("both ways are barred", engine, path(1, 10));
    }

    private static void crowningEndsTheMove() {
        DraughtsEngine engine = Positions.of(40, 0, 21, 1, 25, 3, 26, 3);
        Positions.movesAre("black man", engine, path(21, 30));
        engine = Positions.of(40, 1, 10, 3, 6, 1, 5, 1);
        Positions.movesAre("white man", engine, path(10, 1));
    }

    private static void kingsPassTheLastRow() {
        DraughtsEngine engine = Positions.of(40, 0, 21, 2, 25, 3, 26, 3);
        Positions.movesAre("black king", engine, path(21, 30, 23));
        engine = Positions.of(40, 1, 10, 4, 6, 1, 5, 1);
        Positions.movesAre("white king", engine, path(10, 1, 8));
    }

    private static void aPieceIsJumpedOnce() {
        Positions.movesAre("not back again", Positions.of(40, 0, 0, 2, 5, 3), path(0, 9));
        Positions.movesAre("not crosswise either", Positions.of(40, 0, 8, 2, 5, 3, 6, 3, 13, 3, 14, 3),
                path(8, 1, 10, 17, 8), path(8, 17, 10, 1, 8));
    }

    private static void theFirstSquareCountsAsEmpty() {
        DraughtsEngine engine = Positions.of(40, 0, 10, 2, 6, 3, 5, 3, 13, 3, 14, 3, 15, 3);
        Positions.movesAre("through the first square", engine,
                path(10, 1, 8, 17, 10, 19), path(10, 17, 8, 1, 10, 19), path(10, 19));
    }

    private static void sideIsToldAfterTheEnd() {
        DraughtsEngine engine = Positions.of(4, 0, 17, 1, 22, 3);
        Due.yes("the last white man falls", engine.play(0));
        Due.is("status()", engine.status(), DraughtsEngine.BLACK_WINS);
        Due.is("sideToMove()", engine.sideToMove(), 1);
        engine = Positions.twoKings(5);
        Positions.shuttle(engine, 5);
        Due.is("drawn: sideToMove()", engine.sideToMove(), 1);
    }

    private static int column(int square) {
        return 2 * (square % 4) + (square / 4 % 2 == 0 ? 1 : 0);
    }

    private static int[] path(int... squares) {
        return squares;
    }
}
