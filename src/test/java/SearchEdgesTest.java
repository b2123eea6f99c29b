import java.util.List;

/** The boundary cases that promises 11 and 12 name, a test for each sentence. */
public final class SearchEdgesTest {
    private static final int[] BELOW = {Integer.MIN_VALUE, Integer.MIN_VALUE + 2, -65536, -256, -3, -2, -1, 0};
    private static final int[] ABOVE = {4, 5, 8, 48, 256, 257, 65537, Integer.MAX_VALUE - 1, Integer.MAX_VALUE};

    public static void main(String[] args) {
        Due.sentence("11", "`search(int depth)` accepts every int", SearchEdgesTest::everyDepthIsAccepted);
        Due.sentence("11", "below 1 becomes 1", SearchEdgesTest::aLowDepthBecomes1);
        Due.sentence("11", "above 3 becomes 3", SearchEdgesTest::aHighDepthBecomes3);
        Due.sentence("11", "`depth` is clamped into 1..3", SearchEdgesTest::aDepthBetweenIsKept);
        Due.sentence("11", "If `status()` is not ONGOING, the call is refused: it answers `NO_MOVE` and changes nothing",
                SearchEdgesTest::noSearchAfterTheEnd);
        Due.sentence("11", "(`lastValue()` keeps its value)", SearchEdgesTest::aRefusedSearchKeepsTheValue);
        Due.sentence("11", "over all moves i of the move list, is stored for `lastValue()`", SearchEdgesTest::everyMoveIsTried);
        Due.sentence("11", "the answer is the least index i in 0..moveCount()-1", SearchEdgesTest::theLeastIndexIsAnswered);
        Due.sentence("11", "The answered move is thus a legal move of the current position with `moveLength(i) >= 2`.",
                SearchEdgesTest::theAnswerIsAMove);
        Due.sentence("11", "The position, the side to move, the draw counter, the log, the move list and the status are not changed",
                SearchEdgesTest::theGameStays);
        Due.sentence("11", "The draw limit is not changed.", SearchEdgesTest::theLimitStays);
        Due.sentence("12", "the value v stored by the last `search()` call that was not refused", SearchEdgesTest::theLastValueIsTold);
        Due.sentence("12", "before any such call it answers 0.", SearchEdgesTest::noValueBeforeASearch);
        Due.sentence("12", "Neither `reset`, `place`, `setSideToMove`, `play` nor a refused `search` changes it.",
                SearchEdgesTest::nothingElseSetsTheValue);
        Due.sentence("12", "It changes nothing.", SearchEdgesTest::lastValueChangesNothing);
        Due.finish();
    }

    private static void everyDepthIsAccepted() {
        DraughtsEngine engine = depthMatters();
        for (int depth = -100; depth <= 100; depth++) {
            Due.yes("search(" + depth + ")", engine.search(depth) >= 0);
        }
        for (int depth : BELOW) {
            Due.yes("search(" + depth + ")", engine.search(depth) >= 0);
        }
        for (int depth : ABOVE) {
            Due.yes("search(" + depth + ")", engine.search(depth) >= 0);
        }
    }

    private static void aLowDepthBecomes1() {
        for (int depth : BELOW) {
            found("search(" + depth + ")", depthMatters(), depth, 0, 16);
        }
    }

    private static void aHighDepthBecomes3() {
        for (int depth : ABOVE) {
            found("search(" + depth + ")", depthMatters(), depth, 2, 138);
        }
    }

    private static void aDepthBetweenIsKept() {
        found("search(1)", depthMatters(), 1, 0, 16);
        found("search(2)", depthMatters(), 2, 1, 12);
        found("search(3)", depthMatters(), 3, 2, 138);
    }

    private static void noSearchAfterTheEnd() {
        for (DraughtsEngine engine : Positions.ofEveryEnd()) {
            List<Integer> before = Due.snapshot(engine);
            for (int depth = -1; depth <= 5; depth++) {
                Due.is("search(" + depth + ") in status " + engine.status(), engine.search(depth), DraughtsEngine.NO_MOVE);
                Due.unchanged("search(" + depth + ")", engine, before);
            }
            Due.is("the least depth", engine.search(Integer.MIN_VALUE), DraughtsEngine.NO_MOVE);
            Due.is("the greatest depth", engine.search(Integer.MAX_VALUE), DraughtsEngine.NO_MOVE);
            Due.unchanged("search", engine, before);
        }
    }

    private static void aRefusedSearchKeepsTheValue() {
        for (DraughtsEngine engine : Positions.ofEveryEnd()) {
            int value = engine.lastValue();
            Due.yes("the value is not 0", value != 0);
            for (int depth = 0; depth <= 4; depth++) {
                Due.is("search(" + depth + ")", engine.search(depth), DraughtsEngine.NO_MOVE);
                Due.is("lastValue()", engine.lastValue(), value);
            }
        }
    }

    private static void everyMoveIsTried() {
        found("the last move is the best", Positions.of(40, 0, 0, 2, 27, 1, 20, 3), 1, 2, 250 + 250 - 108);
        found("the first move is the best", Positions.of(40, 1, 4, 3, 31, 4, 11, 1), 1, 0, 250 + 250 - 108);
        found("the only move", Positions.of(40, 0, 4, 1, 31, 4), 1, 0, 108 - 250);
        DraughtsEngine engine = Positions.mostSimpleMoves();
        engine.place(28, 4);
        Due.is("the move 20 to 24", engine.moveSquare(29, 1), 24);
        for (int depth = 1; depth <= 3; depth++) {
            found("one move of 42 bars the white king", engine, depth, 29, 9999);
        }
        for (int depth = 1; depth <= 3; depth++) {
            asReference("most captures", Positions.mostCaptures(), depth);
            asReference("longest path", Positions.longestPath(), depth);
            engine = Positions.mostSimpleMoves();
            engine.place(31, 4);
            engine.place(0, 4);
            asReference("most simple moves", engine, depth);
        }
    }

    private static void theLeastIndexIsAnswered() {
        for (int depth = 1; depth <= 3; depth++) {
            found("42 wins", Positions.mostSimpleMoves(), depth, 0, 9999);
            found("two kings alone", Positions.twoKings(40), depth, 0, 0);
        }
        found("the second and the third are equal", Positions.of(40, 0, 19, 1, 24, 1, 11, 4), 1, 1, 116 + 250 - 250);
        found("the last two are equal", Positions.of(40, 0, 0, 2, 24, 1, 20, 3), 1, 2, 250 + 250 - 108);
        found("all lose alike", Positions.of(40, 0, 9, 1, 17, 3, 18, 3, 10, 3), 2, 0, -9998);
    }

    private static void theAnswerIsAMove() {
        DraughtsEngine[] engines = {new DraughtsEngine(40), Positions.of(40, 0, 4, 1), Positions.played(), Positions.mostCaptures(),
            Positions.mostSimpleMoves(), Positions.longestPath(), depthMatters()};
        for (DraughtsEngine engine : engines) {
            for (int depth = 0; depth <= 4; depth++) {
                int index = engine.search(depth);
                Due.yes("search(" + depth + ") is listed", index >= 0 && index < engine.moveCount());
                Due.yes("moveLength(search(" + depth + "))", engine.moveLength(index) >= 2);
            }
            Due.yes("the answer is played", engine.play(engine.search(3)));
        }
    }

    private static void theGameStays() {
        DraughtsEngine fullLog = Positions.twoKings(80);
        Positions.shuttle(fullLog, 79);
        DraughtsEngine[] engines = {new DraughtsEngine(40), Positions.played(), Positions.mostCaptures(), Positions.mostSimpleMoves(),
            Positions.longestPath(), fullLog, Positions.of(40, 0, 17, 1, 22, 3), Positions.of(40, 1, 22, 3, 17, 1)};
        for (DraughtsEngine engine : engines) {
            List<Integer> before = Due.gameSnapshot(engine);
            for (int depth = 0; depth <= 4; depth++) {
                engine.search(depth);
                Due.yes("search(" + depth + ") leaves the game as it was", Due.gameSnapshot(engine).equals(before));
            }
        }
        Due.yes("the game goes on after it", fullLog.play(0));
        Due.is("its draw", fullLog.status(), DraughtsEngine.DRAW);
    }

    private static void theLimitStays() {
        for (int limit : new int[] {4, 7, 80}) {
            DraughtsEngine engine = Positions.twoKings(limit);
            for (int ply = 1; ply <= limit; ply++) {
                Due.is("status() before ply " + ply, engine.status(), DraughtsEngine.ONGOING);
                engine.search(ply % 5);
                Positions.shuttle(engine, 1);
            }
            Due.is("status() at the limit", engine.status(), DraughtsEngine.DRAW);
        }
    }

    private static void theLastValueIsTold() {
        DraughtsEngine engine = depthMatters();
        int[] depths = {1, 2, 3, 2, 1, 3, 0, 4};
        int[] values = {16, 12, 138, 12, 16, 138, 16, 138};
        for (int n = 0; n < depths.length; n++) {
            engine.search(depths[n]);
            Due.is("lastValue() after search(" + depths[n] + ")", engine.lastValue(), values[n]);
        }
        engine.reset(false);
        engine.search(2);
        Due.is("a value of 0 is stored too", engine.lastValue(), 0);
        engine = Positions.of(40, 1, 0, 2, 1, 2, 31, 4);
        engine.search(1);
        Due.is("a value below 0 is stored too", engine.lastValue(), -250);
    }

    private static void noValueBeforeASearch() {
        DraughtsEngine engine = new DraughtsEngine(40);
        Due.is("a new object", engine.lastValue(), 0);
        engine.play(0);
        Due.is("after play", engine.lastValue(), 0);
        engine.reset(true);
        Due.is("after reset", engine.lastValue(), 0);
        Due.is("a refused search", engine.search(3), DraughtsEngine.NO_MOVE);
        Due.is("after a refused search", engine.lastValue(), 0);
        engine.place(0, 2);
        engine.place(1, 2);
        engine.setSideToMove(1);
        Due.is("a refused search", engine.search(1), DraughtsEngine.NO_MOVE);
        Due.is("after place and setSideToMove", engine.lastValue(), 0);
    }

    private static void nothingElseSetsTheValue() {
        DraughtsEngine engine = depthMatters();
        engine.search(3);
        Due.yes("play", engine.play(0));
        Due.is("play", engine.lastValue(), 138);
        Due.no("a refused play", engine.play(48));
        Due.is("a refused play", engine.lastValue(), 138);
        Due.yes("place", engine.place(0, 2));
        Due.is("place", engine.lastValue(), 138);
        Due.no("a refused place", engine.place(0, 3));
        Due.is("a refused place", engine.lastValue(), 138);
        Due.yes("setSideToMove", engine.setSideToMove(1));
        Due.is("setSideToMove", engine.lastValue(), 138);
        Due.no("a refused setSideToMove", engine.setSideToMove(2));
        Due.is("a refused setSideToMove", engine.lastValue(), 138);
        engine.reset(false);
        Due.is("reset(false)", engine.lastValue(), 138);
        engine.reset(true);
        Due.is("reset(true)", engine.lastValue(), 138);
        Due.is("a refused search", engine.search(1), DraughtsEngine.NO_MOVE);
        Due.is("a refused search", engine.lastValue(), 138);
    }

    private static void lastValueChangesNothing() {
        ReadingEdgesTest.changesNothing("lastValue", DraughtsEngine::lastValue);
    }

    /** Depth 1 finds move 0 worth 16, depth 2 move 1 worth 12, depth 3 move 2 worth 138. */
    private static DraughtsEngine depthMatters() {
        return Positions.of(40, 0, 9, 3, 19, 1, 22, 1, 27, 3);
    }

    private static void asReference(String what, DraughtsEngine engine, int depth) {
        Reference reference = new Reference(40);
        reference.reset(true);
        for (int square = 0; square < 32; square++) {
            reference.place(square, engine.pieceAt(square));
        }
        int move = reference.search(depth);
        found(what, engine, depth, move, reference.value);
    }

    private static void found(String what, DraughtsEngine engine, int depth, int move, int value) {
        Due.is(what + ": search(" + depth + ")", engine.search(depth), move);
        Due.is(what + ": lastValue() after search(" + depth + ")", engine.lastValue(), value);
    }
}
