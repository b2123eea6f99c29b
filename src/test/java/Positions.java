/** Sets up what the tests start from. */
final class Positions {
    static final int[] WRONG = {Integer.MIN_VALUE, -33, -2, -1, 48, 49, 64, 65, 1000, Integer.MAX_VALUE};

    private Positions() {
    }

    /** An object with the side to move and the pieces, told as square, code, square, code, ... */
    static DraughtsEngine of(int drawLimit, int side, int... squaresAndCodes) {
        DraughtsEngine engine = new DraughtsEngine(drawLimit);
        engine.reset(true);
        engine.setSideToMove(side);
        for (int i = 0; i < squaresAndCodes.length; i += 2) {
            int square = squaresAndCodes[i];
            int code = squaresAndCodes[i + 1];
            Due.yes("place(" + square + ", " + code + ")", engine.place(square, code));
        }
        return engine;
    }

    /** Two kings in far corners, which can shuttle for ever: play(0), play(1), play(0), .. */
    static DraughtsEngine twoKings(int drawLimit) {
        return of(drawLimit, 0, 0, 2, 31, 4);
    }

    static void shuttle(DraughtsEngine engine, int plies) {
        for (int ply = 0; ply < plies; ply++) {
            Due.yes("play in shuttle", engine.play(engine.sideToMove()));
        }
    }

    static int pliesToDraw(DraughtsEngine engine) {
        int plies = 0;
        while (plies < 200 && engine.status() == DraughtsEngine.ONGOING) {
            engine.play(engine.sideToMove());
            plies++;
        }
        return plies;
    }

    /** Holds the whole move list against the paths that are due. */
    static void movesAre(String what, DraughtsEngine engine, int[]... paths) {
        Due.is(what + ": moveCount()", engine.moveCount(), paths.length);
        for (int index = 0; index < paths.length; index++) {
            Due.is(what + ": moveLength(" + index + ")", engine.moveLength(index), paths[index].length);
            for (int k = 0; k < paths[index].length; k++) {
                Due.is(what + ": moveSquare(" + index + ", " + k + ")", engine.moveSquare(index, k), paths[index][k]);
            }
        }
    }

    static int[] path(int... squares) {
        return squares;
    }

    static void isStart(String what, DraughtsEngine engine) {
        for (int square = 0; square < 32; square++) {
            int code = square < 12 ? 1 : square < 20 ? 0 : 3;
            Due.is(what + ": pieceAt(" + square + ")", engine.pieceAt(square), code);
        }
        Due.is(what + ": sideToMove()", engine.sideToMove(), 0);
        Due.is(what + ": drawCounter()", engine.drawCounter(), 0);
        Due.is(what + ": logLength()", engine.logLength(), 0);
        Due.is(what + ": status()", engine.status(), 0);
        movesAre(what, engine, path(8, 12), path(8, 13), path(9, 13), path(9, 14), path(10, 14), path(10, 15), path(11, 15));
    }
}
