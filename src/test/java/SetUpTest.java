import java.util.List;

/** Promises 1 to 4: construction, reset, place, setSideToMove. */
public final class SetUpTest {
    public static void main(String[] args) {
        constructionSetsTheStart();
        drawLimitIsClamped();
        resetToTheStart();
        resetToTheEmptyBoard();
        placeTakesEveryCodeOnItsSquares();
        placeRefusesWrongArguments();
        placeCountsTheColour();
        placeForgetsTheHistory();
        placeIsAllowedAfterTheEnd();
        sideIsSet();
        sideIsRefused();
        Due.finish();
    }

    private static void constructionSetsTheStart() {
        for (int limit : new int[] {Integer.MIN_VALUE, -1, 0, 4, 40, 80, 81, Integer.MAX_VALUE}) {
            DraughtsEngine engine = new DraughtsEngine(limit);
            Positions.isStart("new(" + limit + ")", engine);
            Due.is("new: lastValue()", engine.lastValue(), 0);
        }
    }

    private static void drawLimitIsClamped() {
        int[] given = {Integer.MIN_VALUE, -1, 0, 3, 4, 5, 40, 79, 80, 81, Integer.MAX_VALUE};
        int[] kept = {4, 4, 4, 4, 4, 5, 40, 79, 80, 80, 80};
        for (int i = 0; i < given.length; i++) {
            DraughtsEngine engine = Positions.twoKings(given[i]);
            Due.is("plies to the draw with limit " + given[i], Positions.pliesToDraw(engine), kept[i]);
            Due.is("status at the limit", engine.status(), DraughtsEngine.DRAW);
        }
    }

    private static void resetToTheStart() {
        DraughtsEngine engine = Positions.of(7, 1, 13, 1, 17, 3, 0, 2, 31, 4);
        engine.search(3);
        int value = engine.lastValue();
        Due.yes("the value is not 0", value != 0);
        engine.play(0);
        engine.reset(false);
        Positions.isStart("reset(false)", engine);
        Due.is("reset(false): lastValue()", engine.lastValue(), value);
    }

    private static void resetToTheEmptyBoard() {
        DraughtsEngine engine = Positions.twoKings(7);
        Positions.shuttle(engine, 3);
        engine.search(1);
        engine.setSideToMove(0);
        engine.place(1, 2);
        engine.search(1);
        Due.is("two kings against one", engine.lastValue(), 250);
        engine.play(0);
        Due.is("sideToMove()", engine.sideToMove(), 1);
        engine.reset(true);
        for (int square = 0; square < 32; square++) {
            Due.is("reset(true): pieceAt", engine.pieceAt(square), 0);
        }
        Due.is("reset(true): sideToMove()", engine.sideToMove(), 0);
        Due.is("reset(true): status()", engine.status(), DraughtsEngine.WHITE_WINS);
        Due.is("reset(true): moveCount()", engine.moveCount(), 0);
        Due.is("reset(true): drawCounter()", engine.drawCounter(), 0);
        Due.is("reset(true): logLength()", engine.logLength(), 0);
        Due.is("reset(true): lastValue()", engine.lastValue(), 250);
        engine.place(0, 2);
        engine.place(31, 4);
        Due.is("the draw limit outlives reset", Positions.pliesToDraw(engine), 7);
    }

    private static void placeTakesEveryCodeOnItsSquares() {
        for (int square = 0; square < 32; square++) {
            for (int code = 0; code <= 4; code++) {
                boolean allowed = !(code == 1 && square >= 28) && !(code == 3 && square <= 3);
                DraughtsEngine engine = new DraughtsEngine(40);
                engine.reset(true);
                List<Integer> before = Due.snapshot(engine);
                String call = "place(" + square + ", " + code + ")";
                Due.is(call, engine.place(square, code) ? 1 : 0, allowed ? 1 : 0);
                Due.is(call + ": pieceAt", engine.pieceAt(square), allowed ? code : 0);
                if (!allowed) {
                    Due.unchanged(call, engine, before);
                }
            }
        }
    }

    private static void placeRefusesWrongArguments() {
        DraughtsEngine engine = Positions.played();
        List<Integer> before = Due.snapshot(engine);
        for (int square : new int[] {Integer.MIN_VALUE, -32, -1, 32, 33, 64, Integer.MAX_VALUE}) {
            for (int code = -1; code <= 5; code++) {
                Due.no("place(" + square + ", " + code + ")", engine.place(square, code));
            }
        }
        for (int code : new int[] {Integer.MIN_VALUE, -1, 5, 6, Integer.MAX_VALUE}) {
            for (int square = 0; square < 32; square++) {
                Due.no("place(" + square + ", " + code + ")", engine.place(square, code));
            }
        }
        for (int k = 0; k < 4; k++) {
            Due.no("a black man on its crowning row", engine.place(28 + k, 1));
            Due.no("a white man on its crowning row", engine.place(k, 3));
        }
        Due.unchanged("a refused place", engine, before);
    }

    private static void placeCountsTheColour() {
        DraughtsEngine engine = new DraughtsEngine(40);
        List<Integer> before = Due.snapshot(engine);
        Due.no("a 13th black man", engine.place(16, 1));
        Due.no("a 13th black king", engine.place(16, 2));
        Due.no("a 13th white man", engine.place(16, 3));
        Due.no("a 13th white king", engine.place(16, 4));
        Due.no("a 13th black king in a white man's place", engine.place(20, 2));
        Due.no("a 13th white king in a black man's place", engine.place(0, 4));
        Due.unchanged("a 13th piece", engine, before);
        Due.yes("a king in a man's place", engine.place(0, 2));
        Due.yes("the same once more", engine.place(0, 2));
        Due.no("men and kings count together", engine.place(16, 1));
        Due.yes("EMPTY on an empty square", engine.place(16, 0));
        Due.yes("EMPTY on a piece", engine.place(0, 0));
        Due.yes("a 12th black piece", engine.place(16, 2));
        Due.no("a 13th black piece again", engine.place(17, 1));
        Due.yes("EMPTY on a white man", engine.place(24, 0));
        Due.yes("a 12th white piece", engine.place(1, 0) && engine.place(1, 4));
        Due.no("a 13th white piece", engine.place(2, 4));
    }

    private static void placeForgetsTheHistory() {
        for (int code : new int[] {0, 2}) {
            DraughtsEngine engine = Positions.played();
            int value = engine.lastValue();
            int square = code == 0 ? 16 : 5;
            Due.is("the square holds the code already", engine.pieceAt(square), code);
            Due.yes("place", engine.place(square, code));
            Due.is("place: drawCounter()", engine.drawCounter(), 0);
            Due.is("place: logLength()", engine.logLength(), 0);
            Due.is("place: logEntry(0)", engine.logEntry(0), -1);
            Due.is("place: sideToMove()", engine.sideToMove(), 1);
            Due.is("place: lastValue()", engine.lastValue(), value);
            Due.is("place: status()", engine.status(), 0);
        }
        DraughtsEngine engine = Positions.twoKings(6);
        Positions.shuttle(engine, 3);
        engine.place(16, 0);
        Due.is("the draw limit outlives place", Positions.pliesToDraw(engine), 6);
        engine = Positions.of(40, 0, 13, 1);
        Due.is("without a white piece black still moves", engine.status(), 0);
        Positions.movesAre("one man", engine, Positions.path(13, 16), Positions.path(13, 17));
        engine.place(17, 3);
        Positions.movesAre("a man to take", engine, Positions.path(13, 22));
        engine.place(22, 4);
        Positions.movesAre("a protected man", engine, Positions.path(13, 16));
    }

    private static void placeIsAllowedAfterTheEnd() {
        DraughtsEngine engine = Positions.twoKings(4);
        Positions.shuttle(engine, 4);
        Due.is("drawn", engine.status(), DraughtsEngine.DRAW);
        Due.yes("place after a draw", engine.place(16, 0));
        Due.is("ongoing again", engine.status(), 0);
        Due.is("moves again", engine.moveCount(), 2);
        engine.place(0, 0);
        Due.is("lost", engine.status(), DraughtsEngine.WHITE_WINS);
        Due.yes("place after a loss", engine.place(0, 2));
        Due.is("ongoing once more", engine.status(), 0);
    }

    private static void sideIsSet() {
        for (int side = 0; side <= 1; side++) {
            DraughtsEngine engine = Positions.played();
            List<Integer> board = Due.board(engine);
            int value = engine.lastValue();
            Due.yes("setSideToMove(" + side + ")", engine.setSideToMove(side));
            Due.is("set: sideToMove()", engine.sideToMove(), side);
            Due.is("set: drawCounter()", engine.drawCounter(), 0);
            Due.is("set: logLength()", engine.logLength(), 0);
            Due.is("set: lastValue()", engine.lastValue(), value);
            Due.yes("set: board", Due.board(engine).equals(board));
            Due.is("set: first square", engine.moveSquare(0, 0), side == 0 ? 4 : 27);
        }
        DraughtsEngine engine = new DraughtsEngine(40);
        engine.setSideToMove(1);
        Positions.movesAre("white at the start", engine, Positions.path(20, 16), Positions.path(21, 16), Positions.path(21, 17),
                Positions.path(22, 17), Positions.path(22, 18), Positions.path(23, 18), Positions.path(23, 19));
        engine.reset(true);
        Due.yes("setSideToMove(1) after the end", engine.setSideToMove(1));
        Due.is("white has no piece", engine.status(), DraughtsEngine.BLACK_WINS);
        Due.yes("setSideToMove(0) after the end", engine.setSideToMove(0));
        Due.is("black has no piece", engine.status(), DraughtsEngine.WHITE_WINS);
        engine = Positions.twoKings(5);
        Positions.shuttle(engine, 5);
        Due.yes("setSideToMove after a draw", engine.setSideToMove(0));
        Due.is("ongoing again", engine.status(), 0);
        Due.is("the draw limit outlives setSideToMove", Positions.pliesToDraw(engine), 5);
    }

    private static void sideIsRefused() {
        DraughtsEngine engine = Positions.played();
        List<Integer> before = Due.snapshot(engine);
        for (int side : new int[] {Integer.MIN_VALUE, -1, 2, 3, 256, Integer.MAX_VALUE}) {
            Due.no("setSideToMove(" + side + ")", engine.setSideToMove(side));
        }
        Due.unchanged("a refused setSideToMove", engine, before);
    }
}
