import java.util.List;

/** Promises 11 and 12: search and lastValue. */
public final class SearchTest {
    public static void main(String[] args) {
        theEvaluation();
        theFirstOfEqualMoves();
        theDepthIsClamped();
        winsAreCountedInPlies();
        aLossInSight();
        theDrawIsWorthNothing();
        aLossGoesBeforeADraw();
        searchChangesNothingElse();
        searchIsRefusedAfterTheEnd();
        lastValueStays();
        Due.finish();
    }

    private static void theEvaluation() {
        found("kings and a man", Positions.of(40, 0, 0, 2, 31, 3), 1, 0, 250 - 100);
        found("a black man on row 5", Positions.of(40, 0, 16, 1, 31, 3), 1, 0, 120 - 100);
        found("a white man on row 2", Positions.of(40, 1, 13, 3, 0, 1), 1, 0, 120 - 100);
        found("a crowning", Positions.of(40, 0, 24, 1, 8, 4), 1, 0, 0);
        found("the start", new DraughtsEngine(40), 1, 0, 4);
        found("the start", new DraughtsEngine(40), 2, 0, 0);
        found("king or man", Positions.of(40, 0, 0, 2, 20, 1, 31, 3), 1, 2, 250 + 124 - 100);
        found("white's view", Positions.of(40, 1, 0, 2, 1, 2, 27, 3), 1, 0, 108 - 500);
    }

    private static void theFirstOfEqualMoves() {
        DraughtsEngine engine = Positions.of(40, 0, 17, 2, 31, 4, 3, 4);
        found("all moves alike", engine, 1, 0, -250);
        engine = Positions.of(40, 0, 0, 2, 20, 1, 24, 1, 31, 3);
        // 0-4 and 0-5 are worth less than a crowning; of the two crownings the first is due.
        found("two crownings", engine, 1, 2, 250 + 120 + 250 - 100);
    }

    private static void theDepthIsClamped() {
        DraughtsEngine engine = Positions.of(40, 0, 9, 3, 19, 1, 22, 1, 27, 3);
        int[] moves = {0, 0, 1, 2};
        int[] values = {0, 16, 12, 138};
        for (int depth : new int[] {Integer.MIN_VALUE, -3, -1, 0, 1, 2, 3, 4, 5, 100, Integer.MAX_VALUE}) {
            int kept = Math.max(1, Math.min(3, depth));
            found("depth " + depth, engine, depth, moves[kept], values[kept]);
        }
    }

    private static void winsAreCountedInPlies() {
        DraughtsEngine engine = Positions.of(40, 0, 17, 1, 22, 3);
        for (int depth = 1; depth <= 3; depth++) {
            found("a win in one", engine, depth, 0, 9999);
        }
        engine = Positions.of(40, 1, 16, 2, 17, 2, 20, 2, 29, 2, 28, 4);
        engine.play(0);
        found("a win in three", engine, 3, 2, 9997);
    }

    /** White's only move lets black take its last man, or bars it: lost at ply 2. */
    private static void aLossInSight() {
        DraughtsEngine engine = Positions.of(40, 1, 17, 3, 9, 1, 8, 1, 10, 1);
        found("not seen yet", engine, 1, 0, 116 - 3 * 108);
        found("a loss in two", engine, 2, 0, -9998);
        found("a loss in two", engine, 3, 0, -9998);
    }

    private static void theDrawIsWorthNothing() {
        DraughtsEngine engine = Positions.of(4, 0, 0, 2, 1, 2, 31, 4);
        found("far from the limit", engine, 3, 0, 250);
        Positions.shuttle(engine, 1);
        found("three plies from the limit", engine, 2, 0, -250);
        found("three plies from the limit", engine, 3, 0, 0);
        Positions.shuttle(engine, 1);
        found("two plies from the limit", engine, 1, 0, 250);
        found("two plies from the limit", engine, 2, 0, 0);
        Positions.shuttle(engine, 1);
        found("one ply from the limit", engine, 1, 0, 0);
        found("one ply from the limit", engine, 3, 0, 0);
        engine = Positions.of(4, 0, 0, 2, 11, 1, 31, 4);
        Positions.shuttle(engine, 3);
        // Black's man could go on moving, but the game ends before that.
        found("no play after the draw", engine, 2, 0, 0);
        found("no play after the draw", engine, 3, 0, 0);
    }

    private static void aLossGoesBeforeADraw() {
        DraughtsEngine engine = Positions.of(4, 1, 16, 2, 17, 2, 20, 2, 29, 2, 28, 4);
        engine.play(0);
        found("a win with the counter at its limit", engine, 3, 2, 9997);
        engine.play(2);
        engine.play(0);
        found("the last ply wins, else draws", engine, 1, 4, 9999);
    }

    private static void searchChangesNothingElse() {
        DraughtsEngine engine = Positions.of(40, 0, 9, 1, 5, 1, 0, 2, 18, 3, 22, 3, 30, 4, 25, 3);
        for (int ply = 0; ply < 12 && engine.status() == 0; ply++) {
            List<Integer> before = Due.gameSnapshot(engine);
            for (int depth = 0; depth <= 4; depth++) {
                int index = engine.search(depth);
                Due.yes("the answer is a move", engine.moveLength(index) >= 2);
                Due.yes("search leaves the game as it was", Due.gameSnapshot(engine).equals(before));
            }
            engine.play(engine.moveCount() - 1);
        }
        engine = Positions.twoKings(6);
        engine.search(3);
        Due.is("the draw limit outlives search", Positions.pliesToDraw(engine), 6);
    }

    private static void searchIsRefusedAfterTheEnd() {
        DraughtsEngine drawn = Positions.of(4, 0, 0, 2, 1, 2, 31, 4);
        drawn.search(1);
        Positions.shuttle(drawn, 4);
        Due.is("drawn", drawn.status(), DraughtsEngine.DRAW);
        refused(drawn);
        DraughtsEngine lost = Positions.of(40, 0, 17, 1, 22, 3);
        lost.search(1);
        lost.play(0);
        refused(lost);
        DraughtsEngine empty = new DraughtsEngine(40);
        empty.reset(true);
        refused(empty);
    }

    private static void refused(DraughtsEngine engine) {
        List<Integer> before = Due.snapshot(engine);
        for (int depth : new int[] {Integer.MIN_VALUE, 0, 1, 2, 3, 4, Integer.MAX_VALUE}) {
            Due.is("search(" + depth + ") after the end", engine.search(depth), DraughtsEngine.NO_MOVE);
        }
        Due.unchanged("search after the end", engine, before);
    }

    private static void lastValueStays() {
        DraughtsEngine engine = new DraughtsEngine(40);
        Due.is("before any search", engine.lastValue(), 0);
        engine.play(0);
        Due.is("after play only", engine.lastValue(), 0);
        engine.reset(true);
        engine.place(0, 2);
        engine.place(31, 3);
        Due.is("after place only", engine.lastValue(), 0);
        engine.search(1);
        Due.is("after search", engine.lastValue(), 150);
        engine.play(0);
        Due.is("after play", engine.lastValue(), 150);
        engine.place(30, 3);
        Due.is("after place", engine.lastValue(), 150);
        engine.setSideToMove(0);
        Due.is("after setSideToMove", engine.lastValue(), 150);
        engine.reset(false);
        Due.is("after reset(false)", engine.lastValue(), 150);
        engine.reset(true);
        Due.is("after reset(true)", engine.lastValue(), 150);
        engine.search(2);
        Due.is("after a refused search", engine.lastValue(), 150);
        engine.reset(false);
        engine.search(1);
        Due.is("after a new search", engine.lastValue(), 4);
    }

    private static void found(String what, DraughtsEngine engine, int depth, int move, int value) {
        Due.is(what + ": search(" + depth + ")", engine.search(depth), move);
        Due.is(what + ": lastValue() after search(" + depth + ")", engine.lastValue(), value);
    }
}
