import java.util.List;
import java.util.Random;

/** Random runs of calls, every answer held against Reference; the seeds are fixed. */
public final class RandomRunsTest {
    private static int mostMoves = 0;
    private static int draws = 0;
    private static int fullLogs = 0;
    private static int longestPath = 0;

    public static void main(String[] args) {
        for (int seed = 0; seed < 300; seed++) {
            freeCalls(seed);
        }
        for (int seed = 0; seed < 150; seed++) {
            wholeGame(seed);
        }
        for (int seed = 0; seed < 400; seed++) {
            manyCaptures(seed);
        }
        // No position has more than 34 captures or 42 simple moves, so no run can reach the cut at 48.
        Due.yes("the runs met long lists", mostMoves >= 25);
        Due.yes("the runs met draws", draws > 0);
        Due.yes("the runs met full logs", fullLogs > 0);
        Due.yes("the runs met long paths", longestPath >= 8);
        Due.finish();
    }

    /** Any call in any state, with right and wrong arguments. */
    private static void freeCalls(int seed) {
        Random random = new Random(seed);
        int limit = random.nextInt(100) - 10;
        DraughtsEngine engine = new DraughtsEngine(limit);
        Reference reference = new Reference(limit);
        for (int n = 0; n < 60; n++) {
            String call = "free run " + seed + ", call " + n;
            int what = random.nextInt(20);
            if (what == 0) {
                boolean empty = random.nextInt(3) > 0;
                engine.reset(empty);
                reference.reset(empty);
            } else if (what < 10) {
                int square = random.nextInt(36) - 2;
                int code = random.nextInt(7) - 1;
                Due.is(call + " place", bit(engine.place(square, code)), bit(reference.place(square, code)));
            } else if (what == 10) {
                int side = random.nextInt(4) - 1;
                Due.is(call + " side", bit(engine.setSideToMove(side)), bit(reference.setSideToMove(side)));
            } else if (what < 17) {
                int index = random.nextInt(10) - 1;
                Due.is(call + " play", bit(engine.play(index)), bit(reference.play(index)));
            } else {
                int depth = random.nextInt(7) - 1;
                Due.is(call + " search", engine.search(depth), reference.search(depth));
            }
            compare(call, engine, reference);
        }
    }

    /** A game from the start or from few pieces, to its end or for 200 plies. */
    private static void wholeGame(int seed) {
        Random random = new Random(1000 + seed);
        int limit = seed % 2 == 0 ? 4 + random.nextInt(10) : 80;
        DraughtsEngine engine = new DraughtsEngine(limit);
        Reference reference = new Reference(limit);
        if (seed % 3 > 0) {
            engine.reset(true);
            reference.reset(true);
            scatter(random, 3, engine, reference);
        }
        for (int ply = 0; ply < 200 && engine.status() == 0; ply++) {
            String call = "game " + seed + ", ply " + ply;
            boolean nearDraw = limit < 80 && engine.drawCounter() >= limit - 3;
            if (nearDraw || ply % 5 == 0) {
                int depth = 1 + random.nextInt(3);
                Due.is(call + " search", engine.search(depth), reference.search(depth));
            }
            int index = random.nextInt(engine.moveCount());
            Due.is(call + " play", bit(engine.play(index)), bit(reference.play(index)));
            compare(call, engine, reference);
        }
    }

    /** Kings among pieces that stand apart, where paths are long and many. */
    private static void manyCaptures(int seed) {
        Random random = new Random(5000 + seed);
        DraughtsEngine engine = new DraughtsEngine(40);
        Reference reference = new Reference(40);
        engine.reset(true);
        reference.reset(true);
        int mover = random.nextInt(2);
        engine.setSideToMove(mover);
        reference.setSideToMove(mover);
        int shift = random.nextInt(2);
        for (int square = 4; square < 28; square++) {
            int column = 2 * (square % 4) + (square / 4 % 2 == 0 ? 1 : 0);
            boolean inside = column > 0 && column < 7;
            if (inside && square / 4 % 2 == shift && random.nextInt(8) > 0) {
                int foe = (mover == 0 ? 3 : 1) + random.nextInt(2);
                Due.is("foe", bit(engine.place(square, foe)), bit(reference.place(square, foe)));
            }
        }
        for (int n = 0; n < 4; n++) {
            int square = random.nextInt(32);
            if (reference.cells[square] == 0) {
                int king = mover == 0 ? 2 : 4;
                engine.place(square, king);
                reference.place(square, king);
            }
        }
        String call = "captures " + seed;
        compare(call, engine, reference);
        for (int depth = 1; depth <= 3; depth++) {
            Due.is(call + " search", engine.search(depth), reference.search(depth));
            compare(call, engine, reference);
        }
        if (engine.moveCount() > 0) {
            int index = random.nextInt(engine.moveCount());
            Due.is(call + " play", bit(engine.play(index)), bit(reference.play(index)));
            compare(call, engine, reference);
        }
    }

    private static void scatter(Random random, int each, DraughtsEngine engine, Reference reference) {
        for (int n = 0; n < 2 * each; n++) {
            int square = random.nextInt(32);
            int code = random.nextInt(4) == 0 ? 1 + random.nextInt(4) : n % 2 == 0 ? 2 : 4;
            Due.is("scatter", bit(engine.place(square, code)), bit(reference.place(square, code)));
        }
    }

    private static void compare(String call, DraughtsEngine engine, Reference reference) {
        for (int square = 0; square < 32; square++) {
            Due.is(call + ": pieceAt(" + square + ")", engine.pieceAt(square), reference.cells[square]);
        }
        Due.is(call + ": sideToMove()", engine.sideToMove(), reference.side);
        Due.is(call + ": drawCounter()", engine.drawCounter(), reference.counter);
        Due.is(call + ": status()", engine.status(), reference.status());
        Due.is(call + ": lastValue()", engine.lastValue(), reference.value);
        compareMoves(call, engine, reference);
        Due.is(call + ": logLength()", engine.logLength(), reference.log.size());
        for (int i = 0; i < reference.log.size(); i++) {
            Due.is(call + ": logEntry(" + i + ")", engine.logEntry(i), reference.log.get(i));
        }
        draws += reference.status() == 3 ? 1 : 0;
        fullLogs += reference.log.size() == 64 ? 1 : 0;
    }

    private static void compareMoves(String call, DraughtsEngine engine, Reference reference) {
        List<List<Integer>> moves = reference.moveList();
        Due.is(call + ": moveCount()", engine.moveCount(), moves.size());
        mostMoves = Math.max(mostMoves, moves.size());
        for (int index = 0; index < moves.size(); index++) {
            List<Integer> move = moves.get(index);
            Due.is(call + ": moveLength(" + index + ")", engine.moveLength(index), move.size());
            longestPath = Math.max(longestPath, move.size());
            for (int k = 0; k < move.size(); k++) {
                Due.is(call + ": moveSquare(" + index + ", " + k + ")", engine.moveSquare(index, k), move.get(k));
            }
        }
    }

    private static int bit(boolean answer) {
        return answer ? 1 : 0;
    }
}
