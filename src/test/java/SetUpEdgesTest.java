import java.util.List;

/** The boundary cases that promises 1 to 4 name, a test for each sentence. */
public final class SetUpEdgesTest {
    private static final int[] NO_SQUARES = {Integer.MIN_VALUE, -64, -32, -31, -4, -2, -1, 32, 33, 36, 63, 64, 128, 256,
        1 << 16, Integer.MAX_VALUE};
    private static final int[] NO_CODES = {Integer.MIN_VALUE, -256, -4, -2, -1, 5, 6, 7, 8, 256, 257, 1 << 16, Integer.MAX_VALUE};
    private static final int[] NO_SIDES = {Integer.MIN_VALUE, -256, -2, -1, 2, 3, 4, 256, 257, 1 << 16, Integer.MAX_VALUE};

    public static void main(String[] args) {
        construction();
        reset();
        place();
        setSideToMove();
        Due.finish();
    }

    private static void construction() {
        Due.sentence("1", "`DraughtsEngine(int drawLimit)` accepts every int.", SetUpEdgesTest::everyLimitIsAccepted);
        Due.sentence("1", "a value below 4 becomes 4", SetUpEdgesTest::aLowLimitBecomes4);
        Due.sentence("1", "a value above 80 becomes 80", SetUpEdgesTest::aHighLimitBecomes80);
        Due.sentence("1", "values in between are kept as given", SetUpEdgesTest::aLimitBetweenIsKept);
        Due.sentence("1", "The draw limit never changes afterwards.", SetUpEdgesTest::theLimitNeverChanges);
        Due.sentence("1", "black men on 0..11, white men on 20..31, all else empty", SetUpEdgesTest::theFirstBoard);
        Due.sentence("1", "BLACK to move, draw counter 0, log empty (`logLength()` is 0), `lastValue()` 0, status ONGOING",
                SetUpEdgesTest::theFirstState);
        Due.sentence("1", "and the move list is that of the start position", SetUpEdgesTest::theFirstMoves);
    }

    private static void everyLimitIsAccepted() {
        int[] limits = {Integer.MIN_VALUE, Integer.MIN_VALUE + 1, -65536, -81, -80, -4, -1, 0, 1, 2, 3, 4, 5, 79, 80, 81,
            255, 256, 65536, Integer.MAX_VALUE - 1, Integer.MAX_VALUE};
        for (int limit : limits) {
            Positions.isStart("new(" + limit + ")", new DraughtsEngine(limit));
        }
    }

    private static void aLowLimitBecomes4() {
        for (int limit : new int[] {Integer.MIN_VALUE, Integer.MIN_VALUE + 4, -65536, -256, -80, -5, -4, -1, 0, 1, 2, 3}) {
            limitIs("new(" + limit + ")", Positions.twoKings(limit), 4);
        }
    }

    private static void aHighLimitBecomes80() {
        for (int limit : new int[] {81, 82, 84, 128, 160, 255, 256, 260, 65540, Integer.MAX_VALUE - 1, Integer.MAX_VALUE}) {
            limitIs("new(" + limit + ")", Positions.twoKings(limit), 80);
        }
    }

    private static void aLimitBetweenIsKept() {
        for (int limit = 4; limit <= 80; limit++) {
            limitIs("new(" + limit + ")", Positions.twoKings(limit), limit);
        }
    }

    private static void theLimitNeverChanges() {
        for (int limit : new int[] {4, 5, 33, 79, 80}) {
            DraughtsEngine engine = Positions.twoKings(limit);
            limitIs("at first", engine, limit);
            engine.place(16, 0);
            limitIs("after a draw and place", engine, limit);
            engine.setSideToMove(0);
            limitIs("after a draw and setSideToMove", engine, limit);
            engine.reset(false);
            engine.play(0);
            engine.search(3);
            setTwoKings(engine);
            limitIs("after reset(false), play, search and reset(true)", engine, limit);
            setTwoKings(engine);
            refusedCalls(engine);
            limitIs("after refused calls", engine, limit);
            refusedCalls(engine);
            setTwoKings(engine);
            limitIs("after calls refused after the end", engine, limit);
        }
    }

    private static void theFirstBoard() {
        DraughtsEngine engine = new DraughtsEngine(40);
        for (int square = 0; square < 32; square++) {
            int code = square <= 11 ? DraughtsEngine.BLACK_MAN : square >= 20 ? DraughtsEngine.WHITE_MAN : DraughtsEngine.EMPTY;
            Due.is("pieceAt(" + square + ")", engine.pieceAt(square), code);
        }
    }

    private static void theFirstState() {
        DraughtsEngine engine = new DraughtsEngine(40);
        Due.is("sideToMove()", engine.sideToMove(), DraughtsEngine.BLACK);
        Due.is("drawCounter()", engine.drawCounter(), 0);
        Due.is("logLength()", engine.logLength(), 0);
        Due.is("logEntry(0)", engine.logEntry(0), -1);
        Due.is("lastValue()", engine.lastValue(), 0);
        Due.is("status()", engine.status(), DraughtsEngine.ONGOING);
    }

    private static void theFirstMoves() {
        startMoves("new", new DraughtsEngine(40));
    }

    private static void reset() {
        Due.sentence("2", "`reset(boolean empty)` is never refused.", SetUpEdgesTest::resetIsNeverRefused);
        Due.sentence("2", "`empty == false`: the board becomes the start position with BLACK to move.",
                SetUpEdgesTest::resetToTheStart);
        Due.sentence("2", "`empty == true`: all 32 squares become EMPTY and BLACK is to move",
                SetUpEdgesTest::resetToTheEmptyBoard);
        Due.sentence("2", "the status is then WHITE_WINS and the move list is empty", SetUpEdgesTest::theEmptyBoardIsLost);
        Due.sentence("2", "In both cases the draw counter becomes 0, the log is emptied, and the move list and status are recomputed.",
                SetUpEdgesTest::resetForgets);
        Due.sentence("2", "`lastValue()` and the draw limit are kept unchanged.", SetUpEdgesTest::resetKeeps);
    }

    private static void resetIsNeverRefused() {
        for (DraughtsEngine engine : Positions.ofEveryStatus()) {
            int status = engine.status();
            engine.reset(false);
            Positions.isStart("reset(false) in status " + status, engine);
        }
        for (DraughtsEngine engine : Positions.ofEveryStatus()) {
            int status = engine.status();
            engine.reset(true);
            boardIsEmpty("reset(true) in status " + status, engine);
            engine.reset(true);
            boardIsEmpty("reset(true) once more", engine);
            engine.reset(false);
            Positions.isStart("reset(false) after reset(true)", engine);
            engine.reset(false);
            Positions.isStart("reset(false) once more", engine);
        }
    }

    private static void resetToTheStart() {
        DraughtsEngine engine = full();
        engine.setSideToMove(1);
        engine.reset(false);
        for (int square = 0; square < 32; square++) {
            Due.is("pieceAt(" + square + ")", engine.pieceAt(square), square <= 11 ? 1 : square >= 20 ? 3 : 0);
        }
        Due.is("sideToMove()", engine.sideToMove(), DraughtsEngine.BLACK);
    }

    private static void resetToTheEmptyBoard() {
        DraughtsEngine engine = full();
        engine.setSideToMove(1);
        engine.reset(true);
        boardIsEmpty("reset(true)", engine);
        Due.is("sideToMove()", engine.sideToMove(), DraughtsEngine.BLACK);
    }

    private static void theEmptyBoardIsLost() {
        for (DraughtsEngine engine : new DraughtsEngine[] {full(), Positions.played(), Positions.drawn(5), Positions.blackWon(40)}) {
            engine.reset(true);
            Due.is("status()", engine.status(), DraughtsEngine.WHITE_WINS);
            Due.is("moveCount()", engine.moveCount(), 0);
            Due.is("moveLength(0)", engine.moveLength(0), -1);
            Due.is("moveSquare(0, 0)", engine.moveSquare(0, 0), -1);
        }
    }

    private static void resetForgets() {
        for (int plies : new int[] {1, 64, 79, 80}) {
            DraughtsEngine engine = Positions.twoKings(80);
            Positions.shuttle(engine, plies);
            engine.reset(true);
            hasNoPast("reset(true) after " + plies, engine);
            Due.is("reset(true): status()", engine.status(), DraughtsEngine.WHITE_WINS);
            Due.is("reset(true): moveCount()", engine.moveCount(), 0);
            engine = Positions.twoKings(80);
            Positions.shuttle(engine, plies);
            engine.reset(false);
            hasNoPast("reset(false) after " + plies, engine);
            Due.is("reset(false): status()", engine.status(), DraughtsEngine.ONGOING);
            startMoves("reset(false)", engine);
        }
    }

    private static void resetKeeps() {
        for (DraughtsEngine engine : Positions.ofEveryStatus()) {
            int value = engine.lastValue();
            Due.yes("the value is not 0", value != 0);
            engine.reset(true);
            Due.is("reset(true): lastValue()", engine.lastValue(), value);
            engine.reset(false);
            Due.is("reset(false): lastValue()", engine.lastValue(), value);
        }
        for (int limit : new int[] {4, 9, 80}) {
            DraughtsEngine engine = new DraughtsEngine(limit);
            engine.reset(false);
            setTwoKings(engine);
            limitIs("after reset", engine, limit);
        }
    }

    private static void place() {
        Due.sentence("3", "`square` is in 0..31;", SetUpEdgesTest::placeWantsASquare);
        Due.sentence("3", "`code` is in 0..4;", SetUpEdgesTest::placeWantsACode);
        Due.sentence("3", "the request is not a black man on 28..31;", SetUpEdgesTest::noBlackManOnItsLastRow);
        Due.sentence("3", "the request is not a white man on 0..3;", SetUpEdgesTest::noWhiteManOnItsLastRow);
        Due.sentence("3", "is at most 11.", SetUpEdgesTest::atMostElevenOthers);
        Due.sentence("3", "(men and kings together)", SetUpEdgesTest::menAndKingsCountTogether);
        Due.sentence("3", "on all squares other than `square`", SetUpEdgesTest::theSquareItselfIsNotCounted);
        Due.sentence("3", "the number of that colour's pieces", SetUpEdgesTest::theOtherColourIsNotCounted);
        Due.sentence("3", "the first failing one makes the call answer false and change nothing:",
                SetUpEdgesTest::aRefusedPlaceChangesNothing);
        Due.sentence("3", "the square takes the code (also when it already held it)", SetUpEdgesTest::theSameCodeIsTaken);
        Due.sentence("3", "the draw counter becomes 0, the log is emptied, the move list and status are recomputed, and the answer is true",
                SetUpEdgesTest::placeForgets);
        Due.sentence("3", "The side to move is kept, as are the draw limit and `lastValue()`.", SetUpEdgesTest::placeKeeps);
        Due.sentence("3", "Placing is allowed whatever the status is.", SetUpEdgesTest::placeInEveryStatus);
        Due.sentence("3", "Placing EMPTY always passes test 5.", SetUpEdgesTest::emptyIsNeverTooMany);
    }

    private static void placeWantsASquare() {
        DraughtsEngine engine = Positions.of(40, 0, 13, 2, 18, 4);
        List<Integer> before = Due.snapshot(engine);
        for (int square : NO_SQUARES) {
            for (int code = 0; code <= 4; code++) {
                Due.no("place(" + square + ", " + code + ")", engine.place(square, code));
                Due.unchanged("place(" + square + ", " + code + ")", engine, before);
            }
        }
        for (int square : new int[] {0, 31}) {
            for (int code : new int[] {0, 2, 4}) {
                Due.yes("place(" + square + ", " + code + ")", engine.place(square, code));
                Due.is("pieceAt(" + square + ")", engine.pieceAt(square), code);
            }
        }
        Due.yes("place(0, 1)", engine.place(0, 1));
        Due.yes("place(31, 3)", engine.place(31, 3));
    }

    private static void placeWantsACode() {
        DraughtsEngine engine = Positions.of(40, 0, 13, 2, 18, 4);
        List<Integer> before = Due.snapshot(engine);
        for (int code : NO_CODES) {
            for (int square = 0; square < 32; square++) {
                Due.no("place(" + square + ", " + code + ")", engine.place(square, code));
                Due.unchanged("place(" + square + ", " + code + ")", engine, before);
            }
        }
        for (int code = 0; code <= 4; code++) {
            Due.yes("place(16, " + code + ")", engine.place(16, code));
            Due.is("pieceAt(16)", engine.pieceAt(16), code);
        }
    }

    private static void noBlackManOnItsLastRow() {
        for (int square = 0; square < 32; square++) {
            for (int held : new int[] {0, 2, 4}) {
                DraughtsEngine engine = Positions.of(40, 0, square, held);
                List<Integer> before = Due.snapshot(engine);
                boolean answer = engine.place(square, DraughtsEngine.BLACK_MAN);
                Due.is("place(" + square + ", BLACK_MAN)", answer ? 1 : 0, square < 28 ? 1 : 0);
                if (square >= 28) {
                    Due.unchanged("place(" + square + ", BLACK_MAN)", engine, before);
                    Due.yes("a black king there", engine.place(square, DraughtsEngine.BLACK_KING));
                    Due.yes("a white man there", engine.place(square, DraughtsEngine.WHITE_MAN));
                }
            }
        }
    }

    private static void noWhiteManOnItsLastRow() {
        for (int square = 0; square < 32; square++) {
            for (int held : new int[] {0, 2, 4}) {
                DraughtsEngine engine = Positions.of(40, 0, square, held);
                List<Integer> before = Due.snapshot(engine);
                boolean answer = engine.place(square, DraughtsEngine.WHITE_MAN);
                Due.is("place(" + square + ", WHITE_MAN)", answer ? 1 : 0, square > 3 ? 1 : 0);
                if (square <= 3) {
                    Due.unchanged("place(" + square + ", WHITE_MAN)", engine, before);
                    Due.yes("a white king there", engine.place(square, DraughtsEngine.WHITE_KING));
                    Due.yes("a black man there", engine.place(square, DraughtsEngine.BLACK_MAN));
                }
            }
        }
    }

    private static void atMostElevenOthers() {
        for (int code = 1; code <= 4; code++) {
            int first = code == 3 ? 4 : 0;
            DraughtsEngine engine = new DraughtsEngine(40);
            engine.reset(true);
            engine.setSideToMove(code <= 2 ? 0 : 1);
            for (int others = 0; others <= 11; others++) {
                // A search plays moves of its own, whose pieces are not on the board.
                engine.search(3);
                Due.yes("code " + code + " beside " + others + " others", engine.place(first + others, code));
            }
            engine.search(3);
            List<Integer> before = Due.snapshot(engine);
            for (int square = 16; square < 28; square++) {
                Due.no("code " + code + " beside 12 others", engine.place(square, code));
            }
            Due.unchanged("a 13th piece", engine, before);
            Due.yes("one is taken away", engine.place(first + 11, 0));
            Due.yes("code " + code + " beside 11 others", engine.place(27, code));
            Due.no("code " + code + " beside 12 others again", engine.place(first + 11, code));
        }
    }

    private static void menAndKingsCountTogether() {
        for (int man : new int[] {1, 3}) {
            for (int men = 0; men <= 12; men++) {
                DraughtsEngine engine = new DraughtsEngine(40);
                engine.reset(true);
                for (int n = 0; n < 12; n++) {
                    Due.yes("one of twelve", engine.place(4 + n, n < men ? man : man + 1));
                }
                Due.no("a man beside " + men + " men and " + (12 - men) + " kings", engine.place(20, man));
                Due.no("a king beside " + men + " men and " + (12 - men) + " kings", engine.place(20, man + 1));
            }
        }
    }

    private static void theSquareItselfIsNotCounted() {
        DraughtsEngine engine = new DraughtsEngine(40);
        for (int square = 0; square < 12; square++) {
            Due.yes("black man becomes king", engine.place(square, 2));
            Due.yes("black king becomes man", engine.place(square, 1));
            Due.yes("black man once more", engine.place(square, 1));
            Due.yes("white man becomes king", engine.place(31 - square, 4));
            Due.yes("white king becomes man", engine.place(31 - square, 3));
            Due.yes("white man once more", engine.place(31 - square, 3));
        }
        List<Integer> before = Due.snapshot(engine);
        for (int square = 0; square < 12; square++) {
            Due.no("a 13th white piece in a black man's place", engine.place(square, 4));
            Due.no("a 13th black piece in a white man's place", engine.place(31 - square, 2));
        }
        Due.unchanged("a 13th piece in a foe's place", engine, before);
    }

    private static void theOtherColourIsNotCounted() {
        DraughtsEngine engine = new DraughtsEngine(40);
        engine.place(0, 0);
        Due.yes("12 white men do not bar a 12th black king", engine.place(16, 2));
        engine.place(31, 0);
        Due.yes("12 black pieces do not bar a 12th white king", engine.place(15, 4));
        engine.place(30, 0);
        Due.yes("a 12th white king in a black man's place", engine.place(1, 4));
        Due.yes("black has 11 then, so one more", engine.place(12, 2));
        Due.no("black has 12 again", engine.place(0, 2));
    }

    private static void aRefusedPlaceChangesNothing() {
        int[][] wrong = {{-1, 2}, {32, 2}, {-1, -1}, {32, 5}, {16, -1}, {16, 5}, {0, 5}, {28, 1}, {31, 1}, {0, 3}, {3, 3},
            {Integer.MIN_VALUE, Integer.MIN_VALUE}, {Integer.MAX_VALUE, Integer.MAX_VALUE}};
        for (DraughtsEngine engine : Positions.ofEveryStatus()) {
            List<Integer> before = Due.snapshot(engine);
            for (int[] request : wrong) {
                String call = "place(" + request[0] + ", " + request[1] + ")";
                Due.no(call, engine.place(request[0], request[1]));
                Due.unchanged(call, engine, before);
            }
        }
        DraughtsEngine engine = full();
        engine.place(31, 3);
        Positions.shuttle(engine, 1);
        engine.search(1);
        Due.is("lastValue()", engine.lastValue(), -150);
        List<Integer> before = Due.snapshot(engine);
        for (int square = 0; square < 32; square++) {
            if (engine.pieceAt(square) == 0) {
                Due.no("a 13th black piece", engine.place(square, 2));
                Due.unchanged("a 13th black piece", engine, before);
                Due.no("a 13th white piece", engine.place(square, 4));
                Due.unchanged("a 13th white piece", engine, before);
            }
        }
        engine.reset(true);
        for (int square = 20; square < 32; square++) {
            engine.place(square, 4);
        }
        before = Due.snapshot(engine);
        Due.no("a 13th white piece after the end", engine.place(0, 4));
        Due.unchanged("a 13th white piece after the end", engine, before);
    }

    private static void theSameCodeIsTaken() {
        for (int square : new int[] {16, 31}) {
            DraughtsEngine engine = Positions.played();
            engine.play(1);
            int held = engine.pieceAt(square);
            Due.is("what the square holds", held, square == 16 ? 0 : 4);
            Due.yes("place the same", engine.place(square, held));
            Due.is("pieceAt(" + square + ")", engine.pieceAt(square), held);
            hasNoPast("place the same", engine);
        }
        DraughtsEngine engine = new DraughtsEngine(40);
        for (int square = 0; square < 32; square++) {
            Due.yes("place the same on the start position", engine.place(square, engine.pieceAt(square)));
        }
        Positions.isStart("after placing the same everywhere", engine);
    }

    private static void placeForgets() {
        for (int plies : new int[] {1, 63, 64, 65, 79, 80}) {
            DraughtsEngine engine = Positions.twoKings(80);
            Positions.shuttle(engine, plies);
            Due.yes("place after " + plies, engine.place(16, 0));
            hasNoPast("place after " + plies, engine);
            Due.is("status()", engine.status(), DraughtsEngine.ONGOING);
            Due.is("moveCount()", engine.moveCount(), 2);
        }
        DraughtsEngine engine = new DraughtsEngine(40);
        engine.reset(true);
        Due.yes("the first piece", engine.place(13, 1));
        Due.is("the first piece: status()", engine.status(), DraughtsEngine.ONGOING);
        Positions.movesAre("the first piece", engine, Positions.path(13, 16), Positions.path(13, 17));
        Due.yes("a foe", engine.place(17, 3));
        Positions.movesAre("a foe", engine, Positions.path(13, 22));
        Due.yes("a guard", engine.place(22, 3));
        Positions.movesAre("a guard", engine, Positions.path(13, 16));
        Due.yes("a bar", engine.place(16, 3));
        Positions.movesAre("a bar", engine, Positions.path(13, 20));
        Due.yes("another guard", engine.place(20, 3));
        Due.is("barred: status()", engine.status(), DraughtsEngine.WHITE_WINS);
        Due.is("barred: moveCount()", engine.moveCount(), 0);
        Due.yes("the last black man is taken off", engine.place(13, 0));
        Due.is("no black man: status()", engine.status(), DraughtsEngine.WHITE_WINS);
    }

    private static void placeKeeps() {
        for (int side = 0; side <= 1; side++) {
            for (int code = 0; code <= 4; code++) {
                DraughtsEngine engine = Positions.twoKings(11);
                engine.place(0, 2);
                engine.place(1, 2);
                engine.search(1);
                engine.setSideToMove(side);
                Due.yes("place(16, " + code + ")", engine.place(16, code));
                Due.is("sideToMove()", engine.sideToMove(), side);
                Due.is("lastValue()", engine.lastValue(), 250);
            }
        }
        DraughtsEngine engine = Positions.twoKings(11);
        Positions.shuttle(engine, 10);
        engine.place(16, 0);
        limitIs("after place", engine, 11);
    }

    private static void placeInEveryStatus() {
        for (DraughtsEngine engine : Positions.ofEveryStatus()) {
            int status = engine.status();
            Due.yes("place(12, 4) in status " + status, engine.place(12, 4));
            Due.is("pieceAt(12)", engine.pieceAt(12), 4);
        }
        for (DraughtsEngine engine : Positions.ofEveryStatus()) {
            int status = engine.status();
            Due.yes("place(12, 0) in status " + status, engine.place(12, 0));
            Due.is("drawCounter()", engine.drawCounter(), 0);
            Due.is("status()", engine.status(), status == DraughtsEngine.DRAW ? DraughtsEngine.ONGOING : status);
        }
    }

    private static void emptyIsNeverTooMany() {
        for (int square = 0; square < 32; square++) {
            DraughtsEngine engine = full();
            Due.yes("place(" + square + ", EMPTY) beside 12 and 12", engine.place(square, 0));
            Due.is("pieceAt(" + square + ")", engine.pieceAt(square), 0);
        }
    }

    private static void setSideToMove() {
        Due.sentence("4", "if `side` is neither BLACK nor WHITE, it answers false and changes nothing.",
                SetUpEdgesTest::aWrongSideIsRefused);
        Due.sentence("4", "it sets the side to move to `side` (also when it already was)", SetUpEdgesTest::theSameSideIsTaken);
        Due.sentence("4", "sets the draw counter to 0, empties the log, recomputes the move list and status, and answers true.",
                SetUpEdgesTest::sideForgets);
        Due.sentence("4", "The board contents, the draw limit and `lastValue()` are kept.", SetUpEdgesTest::sideKeeps);
        Due.sentence("4", "It is allowed whatever the status is.", SetUpEdgesTest::sideInEveryStatus);
    }

    private static void aWrongSideIsRefused() {
        for (DraughtsEngine engine : Positions.ofEveryStatus()) {
            List<Integer> before = Due.snapshot(engine);
            for (int side : NO_SIDES) {
                Due.no("setSideToMove(" + side + ")", engine.setSideToMove(side));
                Due.unchanged("setSideToMove(" + side + ")", engine, before);
            }
        }
    }

    private static void theSameSideIsTaken() {
        DraughtsEngine engine = Positions.twoKings(40);
        Positions.shuttle(engine, 3);
        Due.yes("WHITE while white is to move", engine.setSideToMove(1));
        Due.is("sideToMove()", engine.sideToMove(), 1);
        hasNoPast("WHITE again", engine);
        engine = Positions.twoKings(40);
        Positions.shuttle(engine, 4);
        Due.yes("BLACK while black is to move", engine.setSideToMove(0));
        Due.is("sideToMove()", engine.sideToMove(), 0);
        hasNoPast("BLACK again", engine);
    }

    private static void sideForgets() {
        for (int side = 0; side <= 1; side++) {
            for (int plies : new int[] {1, 2, 63, 64, 65, 79, 80}) {
                DraughtsEngine engine = Positions.twoKings(80);
                Positions.shuttle(engine, plies);
                Due.yes("setSideToMove(" + side + ") after " + plies, engine.setSideToMove(side));
                hasNoPast("setSideToMove(" + side + ") after " + plies, engine);
                Due.is("status()", engine.status(), DraughtsEngine.ONGOING);
                Due.is("moveCount()", engine.moveCount(), 2);
                Due.is("whose moves", engine.moveSquare(0, 0) < 16 ? 0 : 1, side);
            }
        }
        DraughtsEngine engine = Positions.of(40, 0, 12, 1, 16, 3, 21, 3);
        Due.is("black is barred", engine.status(), DraughtsEngine.WHITE_WINS);
        Due.yes("setSideToMove(1)", engine.setSideToMove(1));
        Due.is("white moves", engine.status(), DraughtsEngine.ONGOING);
        Positions.movesAre("white moves", engine, Positions.path(16, 13), Positions.path(21, 17));
        Due.yes("setSideToMove(0)", engine.setSideToMove(0));
        Due.is("black is barred again", engine.status(), DraughtsEngine.WHITE_WINS);
        Due.is("black is barred again", engine.moveCount(), 0);
    }

    private static void sideKeeps() {
        for (int side = 0; side <= 1; side++) {
            for (DraughtsEngine engine : Positions.ofEveryStatus()) {
                List<Integer> board = Due.board(engine);
                int value = engine.lastValue();
                Due.yes("setSideToMove(" + side + ")", engine.setSideToMove(side));
                Due.yes("the board is kept", Due.board(engine).equals(board));
                Due.is("lastValue()", engine.lastValue(), value);
            }
            DraughtsEngine engine = Positions.twoKings(11);
            Positions.shuttle(engine, 10);
            engine.setSideToMove(side);
            limitIs("after setSideToMove(" + side + ")", engine, 11);
        }
    }

    private static void sideInEveryStatus() {
        for (int side = 0; side <= 1; side++) {
            for (DraughtsEngine engine : Positions.ofEveryStatus()) {
                Due.yes("setSideToMove(" + side + ") in status " + engine.status(), engine.setSideToMove(side));
                Due.is("sideToMove()", engine.sideToMove(), side);
            }
            DraughtsEngine empty = new DraughtsEngine(40);
            empty.reset(true);
            Due.yes("setSideToMove(" + side + ") on the empty board", empty.setSideToMove(side));
            Due.is("status()", empty.status(), side == 0 ? DraughtsEngine.WHITE_WINS : DraughtsEngine.BLACK_WINS);
        }
    }

    /** Two kings shuttle: the game goes on for one ply less than the limit, and is then drawn. */
    private static void limitIs(String what, DraughtsEngine engine, int limit) {
        Due.is(what + ": drawCounter() before", engine.drawCounter(), 0);
        Positions.shuttle(engine, limit - 1);
        Due.is(what + ": status() after " + (limit - 1), engine.status(), DraughtsEngine.ONGOING);
        Positions.shuttle(engine, 1);
        Due.is(what + ": status() after " + limit, engine.status(), DraughtsEngine.DRAW);
    }

    private static void setTwoKings(DraughtsEngine engine) {
        engine.reset(true);
        engine.place(0, 2);
        engine.place(31, 4);
    }

    private static void refusedCalls(DraughtsEngine engine) {
        Due.no("place(-1, 0)", engine.place(-1, 0));
        Due.no("place(0, 5)", engine.place(0, 5));
        Due.no("setSideToMove(2)", engine.setSideToMove(2));
        Due.no("play(-1)", engine.play(-1));
        Due.no("play(48)", engine.play(48));
        if (engine.status() != DraughtsEngine.ONGOING) {
            Due.no("play(0)", engine.play(0));
            Due.is("search(3)", engine.search(3), DraughtsEngine.NO_MOVE);
        }
    }

    /** Twelve kings of each side in the two halves of the board, black to move. */
    private static DraughtsEngine full() {
        DraughtsEngine engine = new DraughtsEngine(40);
        for (int n = 0; n < 12; n++) {
            Due.yes("a black king", engine.place(n, 2));
            Due.yes("a white king", engine.place(31 - n, 4));
        }
        return engine;
    }

    private static void boardIsEmpty(String what, DraughtsEngine engine) {
        for (int square = 0; square < 32; square++) {
            Due.is(what + ": pieceAt(" + square + ")", engine.pieceAt(square), 0);
        }
    }

    private static void hasNoPast(String what, DraughtsEngine engine) {
        Due.is(what + ": drawCounter()", engine.drawCounter(), 0);
        Due.is(what + ": logLength()", engine.logLength(), 0);
        Due.is(what + ": logEntry(0)", engine.logEntry(0), -1);
    }

    private static void startMoves(String what, DraughtsEngine engine) {
        Positions.movesAre(what, engine, Positions.path(8, 12), Positions.path(8, 13), Positions.path(9, 13),
                Positions.path(9, 14), Positions.path(10, 14), Positions.path(10, 15), Positions.path(11, 15));
    }
}
