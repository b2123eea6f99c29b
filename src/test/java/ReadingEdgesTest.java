import java.util.ArrayList;
import java.util.List;
import java.util.function.Consumer;

/** The boundary cases that promises 5 to 9 and 13 name, a test for each sentence. */
public final class ReadingEdgesTest {
    private static final int[] FAR = {Integer.MIN_VALUE, Integer.MIN_VALUE + 1, -65536, -256, -64, -48, -32, -13, -2, -1,
        48, 49, 64, 65, 128, 256, 624, 65536, Integer.MAX_VALUE - 1, Integer.MAX_VALUE};

    public static void main(String[] args) {
        pieceAt();
        sideToMove();
        status();
        drawCounter();
        moveList();
        log();
        Due.finish();
    }

    private static void pieceAt() {
        Due.sentence("5", "answers the code (0..4) of the piece on `square` if `square` is in 0..31",
                ReadingEdgesTest::everySquareIsTold);
        Due.sentence("5", "and -1 for every other int.", ReadingEdgesTest::noOtherSquareIsTold);
        Due.sentence("5", "It changes nothing.", ReadingEdgesTest::pieceAtChangesNothing);
    }

    private static void everySquareIsTold() {
        for (int square = 0; square < 32; square++) {
            for (int code = 0; code <= 4; code++) {
                boolean allowed = !(code == 1 && square >= 28) && !(code == 3 && square <= 3);
                if (allowed) {
                    DraughtsEngine engine = Positions.of(40, 0, square, code);
                    for (int other = 0; other < 32; other++) {
                        Due.is("pieceAt(" + other + ")", engine.pieceAt(other), other == square ? code : 0);
                    }
                }
            }
        }
    }

    private static void noOtherSquareIsTold() {
        for (DraughtsEngine engine : Positions.ofEveryStatus()) {
            engine.search(3);
            for (int square = -200; square <= 200; square++) {
                if (square < 0 || square > 31) {
                    Due.is("pieceAt(" + square + ")", engine.pieceAt(square), -1);
                }
            }
            for (int square : FAR) {
                Due.is("pieceAt(" + square + ")", engine.pieceAt(square), -1);
            }
        }
    }

    private static void pieceAtChangesNothing() {
        changesNothing("pieceAt", engine -> {
            for (int square = -40; square <= 40; square++) {
                engine.pieceAt(square);
            }
            engine.pieceAt(Integer.MIN_VALUE);
            engine.pieceAt(Integer.MAX_VALUE);
        });
    }

    private static void sideToMove() {
        Due.sentence("6", "the side to move, also when the game is over.", ReadingEdgesTest::theSideAfterTheEnd);
        Due.sentence("6", "It changes nothing.", ReadingEdgesTest::sideToMoveChangesNothing);
    }

    private static void theSideAfterTheEnd() {
        Due.is("black won", Positions.blackWon(40).sideToMove(), DraughtsEngine.WHITE);
        Due.is("white won", Positions.whiteWon(40).sideToMove(), DraughtsEngine.BLACK);
        Due.is("drawn after 4 plies", Positions.drawn(4).sideToMove(), DraughtsEngine.BLACK);
        Due.is("drawn after 5 plies", Positions.drawn(5).sideToMove(), DraughtsEngine.WHITE);
        Due.is("drawn after 80 plies", Positions.drawn(80).sideToMove(), DraughtsEngine.BLACK);
        DraughtsEngine engine = Positions.of(40, 0, 17, 1, 22, 3);
        engine.play(0);
        Due.is("the last white man is taken", engine.sideToMove(), DraughtsEngine.WHITE);
        engine = Positions.of(40, 1, 22, 3, 17, 1);
        engine.play(0);
        Due.is("the last black man is taken", engine.sideToMove(), DraughtsEngine.BLACK);
        engine.reset(true);
        Due.is("the empty board", engine.sideToMove(), DraughtsEngine.BLACK);
        engine.setSideToMove(1);
        Due.is("the empty board, white to move", engine.sideToMove(), DraughtsEngine.WHITE);
    }

    private static void sideToMoveChangesNothing() {
        changesNothing("sideToMove", DraughtsEngine::sideToMove);
    }

    private static void status() {
        Due.sentence("7", "`status()` answers ONGOING, BLACK_WINS, WHITE_WINS or DRAW", ReadingEdgesTest::everyStatus);
        Due.sentence("7", "for the current position, side to move and draw counter.", ReadingEdgesTest::theStatusIsCurrent);
        Due.sentence("7", "It changes nothing.", ReadingEdgesTest::statusChangesNothing);
    }

    private static void everyStatus() {
        int[] due = {0, 1, 2, 3, 3, 2};
        DraughtsEngine[] engines = Positions.ofEveryStatus();
        for (int n = 0; n < due.length; n++) {
            Due.is("status()", engines[n].status(), due[n]);
        }
    }

    private static void theStatusIsCurrent() {
        DraughtsEngine engine = new DraughtsEngine(4);
        Due.is("start", engine.status(), DraughtsEngine.ONGOING);
        engine.reset(true);
        Due.is("no piece, black to move", engine.status(), DraughtsEngine.WHITE_WINS);
        engine.setSideToMove(1);
        Due.is("no piece, white to move", engine.status(), DraughtsEngine.BLACK_WINS);
        engine.place(31, 4);
        Due.is("a white king alone, white to move", engine.status(), DraughtsEngine.ONGOING);
        engine.setSideToMove(0);
        Due.is("a white king alone, black to move", engine.status(), DraughtsEngine.WHITE_WINS);
        engine.place(0, 2);
        Due.is("a king each", engine.status(), DraughtsEngine.ONGOING);
        Positions.shuttle(engine, 3);
        Due.is("one ply below the limit", engine.status(), DraughtsEngine.ONGOING);
        Positions.shuttle(engine, 1);
        Due.is("at the limit", engine.status(), DraughtsEngine.DRAW);
        engine.setSideToMove(0);
        Due.is("the counter is 0 again", engine.status(), DraughtsEngine.ONGOING);
        engine.place(0, 0);
        Due.is("the black king is taken off", engine.status(), DraughtsEngine.WHITE_WINS);
        engine.reset(false);
        Due.is("start again", engine.status(), DraughtsEngine.ONGOING);
    }

    private static void statusChangesNothing() {
        changesNothing("status", DraughtsEngine::status);
    }

    private static void drawCounter() {
        Due.sentence("8", "a value from 0 up to the number of plies played since the last reset",
                ReadingEdgesTest::theCounterGrowsToTheLimit);
        Due.sentence("8", "(and since the last successful `place` or `setSideToMove`, each of which sets it to 0)",
                ReadingEdgesTest::theCounterStartsAnew);
        Due.sentence("8", "It changes nothing.", ReadingEdgesTest::drawCounterChangesNothing);
    }

    private static void theCounterGrowsToTheLimit() {
        for (int limit : new int[] {4, 5, 64, 80}) {
            DraughtsEngine engine = Positions.twoKings(limit);
            Due.is("at first", engine.drawCounter(), 0);
            for (int ply = 1; ply <= limit; ply++) {
                Positions.shuttle(engine, 1);
                Due.is("after ply " + ply, engine.drawCounter(), ply);
            }
            Due.no("no play beyond the limit", engine.play(0));
            Due.is("it stays at the limit", engine.drawCounter(), limit);
        }
        DraughtsEngine engine = new DraughtsEngine(40);
        for (int ply = 0; ply < 20 && engine.status() == 0; ply++) {
            engine.play(0);
            Due.is("men alone have moved", engine.drawCounter(), 0);
        }
    }

    private static void theCounterStartsAnew() {
        for (int plies = 1; plies <= 5; plies++) {
            DraughtsEngine engine = Positions.twoKings(5);
            Positions.shuttle(engine, plies);
            Due.no("a refused place", engine.place(32, 0));
            Due.is("a refused place", engine.drawCounter(), plies);
            Due.no("a refused setSideToMove", engine.setSideToMove(2));
            Due.is("a refused setSideToMove", engine.drawCounter(), plies);
            Due.no("a refused play", engine.play(-1));
            Due.is("a refused play", engine.drawCounter(), plies);
            Due.yes("place", engine.place(16, 0));
            Due.is("place", engine.drawCounter(), 0);
            Positions.shuttle(engine, plies);
            Due.is("counted anew", engine.drawCounter(), plies);
            Due.yes("setSideToMove", engine.setSideToMove(0));
            Due.is("setSideToMove", engine.drawCounter(), 0);
            Positions.shuttle(engine, plies);
            Due.is("counted anew", engine.drawCounter(), plies);
            engine.reset(plies % 2 == 0);
            Due.is("reset", engine.drawCounter(), 0);
        }
    }

    private static void drawCounterChangesNothing() {
        changesNothing("drawCounter", DraughtsEngine::drawCounter);
    }

    private static void moveList() {
        Due.sentence("9", "`moveCount()` answers the number of moves in the move list, 0..MAX_MOVES;",
                ReadingEdgesTest::theLongestLists);
        Due.sentence("9", "it is 0 unless the status is ONGOING", ReadingEdgesTest::noMovesAfterTheEnd);
        Due.sentence("9", "and at least 1 when it is ONGOING.", ReadingEdgesTest::aMoveWhileTheGameIsOn);
        Due.sentence("9", "answers the number of squares k + 1 (2..13) in the path of move `index`",
                ReadingEdgesTest::theShortestAndTheLongestPath);
        Due.sentence("9", "it answers -1 if `index` is not in 0..moveCount()-1 (negative, too large, or any index when the list is empty).",
                ReadingEdgesTest::moveLengthOfNoMove);
        Due.sentence("9", "it answers -1 if `index` is not in 0..moveCount()-1 or", ReadingEdgesTest::moveSquareOfNoMove);
        Due.sentence("9", "`k` is not in 0..moveLength(index)-1.", ReadingEdgesTest::moveSquareBesideThePath);
        Due.sentence("9", "None of these methods changes anything.", ReadingEdgesTest::theListReadersChangeNothing);
    }

    private static void theLongestLists() {
        Due.is("most captures", Positions.mostCaptures().moveCount(), 34);
        Due.is("most simple moves", Positions.mostSimpleMoves().moveCount(), 42);
        Due.is("a king in the open", Positions.of(40, 0, 17, 2).moveCount(), 4);
        Due.is("a king in the corner", Positions.of(40, 0, 3, 2).moveCount(), 1);
        Due.is("no piece", Positions.of(40, 0).moveCount(), 0);
    }

    private static void noMovesAfterTheEnd() {
        for (DraughtsEngine engine : Positions.ofEveryEnd()) {
            Due.is("moveCount() in status " + engine.status(), engine.moveCount(), 0);
        }
        DraughtsEngine engine = Positions.drawn(80);
        Due.is("moveCount() after 80 plies", engine.moveCount(), 0);
        engine = Positions.of(40, 0, 17, 1, 22, 3);
        engine.play(0);
        Due.is("moveCount() without a piece", engine.moveCount(), 0);
    }

    private static void aMoveWhileTheGameIsOn() {
        Due.is("one man, one move", Positions.of(40, 0, 4, 1).moveCount(), 1);
        Due.is("one man before its last row", Positions.of(40, 0, 27, 1).moveCount(), 1);
        Due.is("one white man, one move", Positions.of(40, 1, 27, 3).moveCount(), 1);
        Due.is("one capture", Positions.of(40, 0, 13, 1, 17, 3).moveCount(), 1);
        DraughtsEngine engine = Positions.twoKings(80);
        for (int ply = 0; ply < 80; ply++) {
            Due.is("status() before ply " + ply, engine.status(), DraughtsEngine.ONGOING);
            Due.is("moveCount() before ply " + ply, engine.moveCount(), 2);
            Positions.shuttle(engine, 1);
        }
    }

    /** Nine foes at most stand where a king can take them all, so no path has more than ten squares. */
    private static void theShortestAndTheLongestPath() {
        DraughtsEngine engine = Positions.longestPath();
        int longest = 0;
        int index = -1;
        for (int i = 0; i < engine.moveCount(); i++) {
            if (engine.moveLength(i) > longest) {
                longest = engine.moveLength(i);
                index = i;
            }
        }
        Due.is("the longest path", longest, 10);
        Due.is("its first square", engine.moveSquare(index, 0), 0);
        Due.is("its last square", engine.moveSquare(index, 9), 27);
        Due.is("beyond it", engine.moveSquare(index, 10), -1);
        Due.is("a simple move", new DraughtsEngine(40).moveLength(0), 2);
        Due.is("a single jump", Positions.of(40, 0, 13, 1, 17, 3).moveLength(0), 2);
        Due.is("two jumps", Positions.of(40, 0, 9, 1, 14, 3, 22, 3).moveLength(0), 3);
    }

    private static void moveLengthOfNoMove() {
        for (DraughtsEngine engine : withMoves()) {
            int count = engine.moveCount();
            Due.yes("moveLength(0)", engine.moveLength(0) >= 2);
            Due.yes("moveLength(moveCount() - 1)", engine.moveLength(count - 1) >= 2);
            Due.is("moveLength(moveCount())", engine.moveLength(count), -1);
            for (int index = count; index <= 200; index++) {
                Due.is("moveLength(" + index + ")", engine.moveLength(index), -1);
            }
            for (int index : FAR) {
                Due.is("moveLength(" + index + ")", engine.moveLength(index), -1);
            }
        }
        for (DraughtsEngine engine : Positions.ofEveryEnd()) {
            for (int index = -60; index <= 200; index++) {
                Due.is("moveLength(" + index + ") of an empty list", engine.moveLength(index), -1);
            }
            for (int index : FAR) {
                Due.is("moveLength(" + index + ") of an empty list", engine.moveLength(index), -1);
            }
        }
    }

    private static void moveSquareOfNoMove() {
        for (DraughtsEngine engine : withMoves()) {
            int count = engine.moveCount();
            for (int k = 0; k <= 1; k++) {
                Due.yes("moveSquare(0, " + k + ")", engine.moveSquare(0, k) >= 0);
                Due.yes("moveSquare(moveCount() - 1, " + k + ")", engine.moveSquare(count - 1, k) >= 0);
                for (int index = count; index <= 200; index++) {
                    Due.is("moveSquare(" + index + ", " + k + ")", engine.moveSquare(index, k), -1);
                }
                for (int index : FAR) {
                    Due.is("moveSquare(" + index + ", " + k + ")", engine.moveSquare(index, k), -1);
                }
            }
            wrongBoth(engine);
        }
        for (DraughtsEngine engine : Positions.ofEveryEnd()) {
            for (int index = -2; index <= 60; index++) {
                for (int k = -1; k <= 13; k++) {
                    Due.is("moveSquare(" + index + ", " + k + ") of an empty list", engine.moveSquare(index, k), -1);
                }
            }
            wrongBoth(engine);
        }
    }

    private static void wrongBoth(DraughtsEngine engine) {
        for (int index : FAR) {
            for (int k : FAR) {
                Due.is("moveSquare(" + index + ", " + k + ")", engine.moveSquare(index, k), -1);
            }
        }
    }

    private static void moveSquareBesideThePath() {
        for (DraughtsEngine engine : withMoves()) {
            for (int index = 0; index < engine.moveCount(); index++) {
                int length = engine.moveLength(index);
                for (int k = -40; k <= 60; k++) {
                    int square = engine.moveSquare(index, k);
                    boolean onPath = k >= 0 && k < length;
                    Due.yes("moveSquare(" + index + ", " + k + ")", onPath ? square >= 0 && square <= 31 : square == -1);
                }
                for (int k : FAR) {
                    Due.is("moveSquare(" + index + ", " + k + ")", engine.moveSquare(index, k), -1);
                }
            }
        }
    }

    private static void theListReadersChangeNothing() {
        changesNothing("moveCount", DraughtsEngine::moveCount);
        changesNothing("moveLength", engine -> {
            for (int index = -2; index <= 50; index++) {
                engine.moveLength(index);
            }
        });
        changesNothing("moveSquare", engine -> {
            for (int index = -2; index <= 50; index++) {
                for (int k = -2; k <= 15; k++) {
                    engine.moveSquare(index, k);
                }
            }
        });
    }

    /** Lists of few and of many moves; a longer list was read before, so old moves lie behind the end. */
    private static DraughtsEngine[] withMoves() {
        DraughtsEngine shortened = Positions.mostCaptures();
        shortened.reset(false);
        return new DraughtsEngine[] {new DraughtsEngine(40), Positions.of(40, 0, 4, 1), Positions.played(),
            Positions.mostCaptures(), Positions.mostSimpleMoves(), Positions.longestPath(), shortened};
    }

    private static void log() {
        Due.sentence("13", "`logLength()` answers the number of entries in the log, 0..LOG_SIZE.",
                ReadingEdgesTest::theLogFrom0To64);
        Due.sentence("13", "with i = 0 the oldest entry held and logLength()-1 the newest", ReadingEdgesTest::oldestAndNewest);
        Due.sentence("13", "it answers -1 if `i` is not in 0..logLength()-1.", ReadingEdgesTest::noSuchEntry);
        Due.sentence("13", "Neither method changes anything.", ReadingEdgesTest::theLogReadersChangeNothing);
    }

    private static void theLogFrom0To64() {
        DraughtsEngine engine = Positions.twoKings(80);
        Due.is("logLength() at first", engine.logLength(), 0);
        for (int ply = 1; ply <= 80; ply++) {
            Positions.shuttle(engine, 1);
            Due.is("logLength() after " + ply, engine.logLength(), Math.min(ply, 64));
        }
        engine.reset(false);
        Due.is("logLength() after reset", engine.logLength(), 0);
    }

    private static void oldestAndNewest() {
        int[] entries = {32 * 4, 31 + 32 * 27, 4, 27 + 32 * 31};
        DraughtsEngine engine = Positions.twoKings(80);
        for (int ply = 1; ply <= 80; ply++) {
            Positions.shuttle(engine, 1);
            int oldest = Math.max(0, ply - 64);
            Due.is("logEntry(0) after " + ply, engine.logEntry(0), entries[oldest % 4]);
            Due.is("newest entry after " + ply, engine.logEntry(engine.logLength() - 1), entries[(ply - 1) % 4]);
        }
    }

    private static void noSuchEntry() {
        for (int plies : new int[] {0, 1, 2, 63, 64, 65, 79, 80}) {
            DraughtsEngine engine = Positions.twoKings(80);
            Positions.shuttle(engine, plies);
            int length = Math.min(plies, 64);
            for (int i = length; i <= 300; i++) {
                Due.is("logEntry(" + i + ") after " + plies, engine.logEntry(i), -1);
            }
            for (int i = -300; i < 0; i++) {
                Due.is("logEntry(" + i + ") after " + plies, engine.logEntry(i), -1);
            }
            for (int i : new int[] {Integer.MIN_VALUE, -65536, 65536, Integer.MAX_VALUE}) {
                Due.is("logEntry(" + i + ") after " + plies, engine.logEntry(i), -1);
            }
            for (int i = 0; i < length; i++) {
                Due.yes("logEntry(" + i + ") after " + plies, engine.logEntry(i) >= 0);
            }
            engine.setSideToMove(0);
            Due.is("logEntry(0) of the emptied log", engine.logEntry(0), -1);
        }
    }

    private static void theLogReadersChangeNothing() {
        changesNothing("logLength", DraughtsEngine::logLength);
        changesNothing("logEntry", engine -> {
            for (int i = -70; i <= 70; i++) {
                engine.logEntry(i);
            }
        });
    }

    /**
     * Holds an object that was read against a twin that was not. Each view is taken of new twins,
     * since the readers that take a view might themselves be the ones that change something.
     */
    static void changesNothing(String what, Consumer<DraughtsEngine> reads) {
        for (int state = 0; state <= Positions.STATES; state++) {
            for (int view = 0; view < 9; view++) {
                List<Integer> alone = view(view, ofState(state));
                DraughtsEngine engine = ofState(state);
                for (int n = 0; n < 3; n++) {
                    reads.accept(engine);
                }
                Due.yes(what + " in state " + state + " leaves view " + view, view(view, engine).equals(alone));
            }
        }
    }

    /** As in Positions, and one state more: a full log, one ply before the draw. */
    private static DraughtsEngine ofState(int state) {
        if (state < Positions.STATES) {
            return Positions.ofState(state);
        }
        DraughtsEngine engine = Positions.twoKings(80);
        engine.search(1);
        Positions.shuttle(engine, 79);
        return engine;
    }

    private static List<Integer> view(int view, DraughtsEngine engine) {
        switch (view) {
            case 0:
                return Due.board(engine);
            case 1:
                return List.of(engine.sideToMove());
            case 2:
                return List.of(engine.status());
            case 3:
                return List.of(engine.drawCounter());
            case 4:
                return Due.moves(engine);
            case 5:
                return List.of(engine.logLength());
            case 6:
                return logEntries(engine);
            case 7:
                return List.of(engine.lastValue());
            default:
                return whatFollows(engine);
        }
    }

    /** The log read without logLength(). */
    private static List<Integer> logEntries(DraughtsEngine engine) {
        List<Integer> answers = new ArrayList<>();
        for (int i = 0; i < 64; i++) {
            answers.add(engine.logEntry(i));
        }
        return answers;
    }

    /** The rest of the game, which tells what no reader does: the draw limit. */
    private static List<Integer> whatFollows(DraughtsEngine engine) {
        List<Integer> answers = new ArrayList<>();
        for (int ply = 0; ply < 100 && engine.play(engine.sideToMove()); ply++) {
            answers.add(engine.logEntry(engine.logLength() - 1));
        }
        answers.add(engine.status());
        return answers;
    }
}
