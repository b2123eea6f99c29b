/** Sets up what the tests start from. */
final class Positions {
    static final int[] WRONG = {Integer.MIN_VALUE, -33, -2, -1, 48, 49, 64, 65, 1000, Integer.MAX_VALUE};

    private Positions() {
    }

    /** An object with the side to move and the pieces, told as square, code, square, code, ... */
    static DraughtsEngine of(int drawLimit, int side, int... squaresAndCodes) {
        DraughtsEngine engine = new DraughtsEngine(drawLimit);
        engine.reset(true);
        engine.setSideToMove(side);
        for (int i = 0; i < squaresAndCodes.length; i += 2) {
            int square = squaresAndCodes[i];
            int code = squaresAndCodes[i + 1];
            Due.yes("place(" + square + ", " + code + ")", engine.place(square, code));
        }
        return engine;
    }

    /** Two kings in far corners, which can shuttle for ever: play(0), play(1), play(0), .. */
    static DraughtsEngine twoKings(int drawLimit) {
        return of(drawLimit, 0, 0, 2, 31, 4);
    }

    static void shuttle(DraughtsEngine engine, int plies) {
        for (int ply = 0; ply < plies; ply++) {
            Due.yes("play in shuttle", engine.play(engine.sideToMove()));
        }
    }

    static int pliesToDraw(DraughtsEngine engine) {
        int plies = 0;
        while (plies < 200 && engine.status() == DraughtsEngine.ONGOING) {
            engine.play(engine.sideToMove());
            plies++;
        }
        return plies;
    }

    /** White to move, a log of three entries, counter 3, a search done. */
    static DraughtsEngine played() {
        DraughtsEngine engine = of(20, 0, 0, 2, 1, 2, 31, 4);
        engine.search(1);
        Due.is("played: lastValue()", engine.lastValue(), 250);
        shuttle(engine, 3);
        Due.is("played: drawCounter()", engine.drawCounter(), 3);
        Due.is("played: logLength()", engine.logLength(), 3);
        Due.is("played: sideToMove()", engine.sideToMove(), 1);
        return engine;
    }

    /** White is barred: white to move, a log of four entries, counter 4, a search done. */
    static DraughtsEngine blackWon(int drawLimit) {
        DraughtsEngine engine = of(drawLimit, 1, 16, 2, 17, 2, 20, 2, 29, 2, 28, 4);
        engine.search(1);
        Due.is("black won: lastValue()", engine.lastValue(), -750);
        move(engine, 28, 24);
        move(engine, 16, 21);
        move(engine, 24, 28);
        move(engine, 29, 24);
        Due.is("black won: status()", engine.status(), DraughtsEngine.BLACK_WINS);
        Due.is("black won: drawCounter()", engine.drawCounter(), 4);
        return engine;
    }

    /** Black is barred: black to move, a log of four entries, counter 4, a search done. */
    static DraughtsEngine whiteWon(int drawLimit) {
        DraughtsEngine engine = of(drawLimit, 0, 15, 4, 14, 4, 11, 4, 2, 4, 3, 2);
        engine.search(1);
        Due.is("white won: lastValue()", engine.lastValue(), -750);
        move(engine, 3, 7);
        move(engine, 15, 10);
        move(engine, 7, 3);
        move(engine, 2, 7);
        Due.is("white won: status()", engine.status(), DraughtsEngine.WHITE_WINS);
        Due.is("white won: drawCounter()", engine.drawCounter(), 4);
        return engine;
    }

    /** Drawn at the limit, a search done; black is to move if the limit is even. */
    static DraughtsEngine drawn(int drawLimit) {
        DraughtsEngine engine = of(drawLimit, 0, 0, 2, 1, 2, 31, 4);
        engine.search(1);
        Due.is("drawn: lastValue()", engine.lastValue(), 250);
        shuttle(engine, drawLimit);
        Due.is("drawn: status()", engine.status(), DraughtsEngine.DRAW);
        Due.is("drawn: drawCounter()", engine.drawCounter(), drawLimit);
        return engine;
    }

    static final int STATES = 6;

    /** State 0 is ongoing; the others are over: won by either, a draw with either to move, the empty board. */
    static DraughtsEngine ofState(int state) {
        switch (state) {
            case 0:
                return played();
            case 1:
                return blackWon(40);
            case 2:
                return whiteWon(40);
            case 3:
                return drawn(4);
            case 4:
                return drawn(5);
            default:
                DraughtsEngine empty = new DraughtsEngine(40);
                empty.search(1);
                Due.is("empty: lastValue()", empty.lastValue(), 4);
                empty.reset(true);
                return empty;
        }
    }

    static DraughtsEngine[] ofEveryStatus() {
        return ofStatesFrom(0);
    }

    static DraughtsEngine[] ofEveryEnd() {
        return ofStatesFrom(1);
    }

    private static DraughtsEngine[] ofStatesFrom(int first) {
        DraughtsEngine[] engines = new DraughtsEngine[STATES - first];
        for (int n = 0; n < engines.length; n++) {
            engines[n] = ofState(first + n);
        }
        return engines;
    }

    /** No position has more capture moves: a program, not kept here, tried all sets of foes and kings. */
    static DraughtsEngine mostCaptures() {
        return of(40, 0, 0, 2, 1, 2, 3, 4, 4, 2, 5, 2, 7, 2, 8, 4, 9, 4, 10, 4,
                16, 4, 17, 4, 18, 4, 19, 4, 20, 2, 24, 4, 25, 4, 26, 4, 27, 4);
    }

    /** No position has more simple moves: the same program tried all sets of up to twelve kings. */
    static DraughtsEngine mostSimpleMoves() {
        return of(40, 0, 4, 2, 5, 2, 6, 2, 7, 2, 12, 2, 13, 2, 14, 2, 15, 2, 20, 2, 21, 2, 22, 2, 23, 2);
    }

    /** The king on 0 can take nine foes in one move, which ends on 27. */
    static DraughtsEngine longestPath() {
        return of(40, 0, 0, 2, 5, 3, 6, 3, 7, 3, 13, 3, 14, 3, 15, 3, 21, 3, 22, 3, 23, 3, 31, 4);
    }

    /** Plays the only move of the list that leads from one square to the other. */
    static void move(DraughtsEngine engine, int from, int to) {
        int found = -1;
        for (int index = 0; index < engine.moveCount(); index++) {
            int last = engine.moveLength(index) - 1;
            if (engine.moveSquare(index, 0) == from && engine.moveSquare(index, last) == to) {
                found = index;
            }
        }
        Due.yes("move " + from + " to " + to + " is listed", found >= 0);
        Due.yes("play(" + found + "), " + from + " to " + to, engine.play(found));
    }

    /** Holds the whole move list against the paths that are due. */
    static void movesAre(String what, DraughtsEngine engine, int[]... paths) {
        Due.is(what + ": moveCount()", engine.moveCount(), paths.length);
        for (int index = 0; index < paths.length; index++) {
            Due.is(what + ": moveLength(" + index + ")", engine.moveLength(index), paths[index].length);
            for (int k = 0; k < paths[index].length; k++) {
                Due.is(what + ": moveSquare(" + index + ", " + k + ")", engine.moveSquare(index, k), paths[index][k]);
            }
        }
    }

    static int[] path(int... squares) {
        return squares;
    }

    static void isStart(String what, DraughtsEngine engine) {
        for (int square = 0; square < 32; square++) {
            int code = square < 12 ? 1 : square < 20 ? 0 : 3;
            Due.is(what + ": pieceAt(" + square + ")", engine.pieceAt(square), code);
        }
        Due.is(what + ": sideToMove()", engine.sideToMove(), 0);
        Due.is(what + ": drawCounter()", engine.drawCounter(), 0);
        Due.is(what + ": logLength()", engine.logLength(), 0);
        Due.is(what + ": status()", engine.status(), 0);
        movesAre(what, engine, path(8, 12), path(8, 13), path(9, 13), path(9, 14), path(10, 14), path(10, 15), path(11, 15));
    }
}
