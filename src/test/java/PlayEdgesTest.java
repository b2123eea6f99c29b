import java.util.ArrayList;
import java.util.List;

/** The boundary cases that promise 10 names, a test for each sentence. */
public final class PlayEdgesTest {
    private static final int[] FAR = {Integer.MIN_VALUE, -65536, -256, -48, -2, -1, 48, 49, 64, 256, 65536, Integer.MAX_VALUE};

    public static void main(String[] args) {
        Due.sentence("10", "if `status()` is not ONGOING", PlayEdgesTest::noPlayAfterTheEnd);
        Due.sentence("10", "or `index` is not in 0..moveCount()-1.", PlayEdgesTest::noPlayOfNoMove);
        Due.sentence("10", "the move is applied as described under Applying a move (board, draw counter, side to move)",
                PlayEdgesTest::theFirstAndTheLastMove);
        Due.sentence("10", "one log entry is appended", PlayEdgesTest::oneEntryIsAppended);
        Due.sentence("10", "if the log already holds `LOG_SIZE` entries, its oldest entry is discarded first",
                PlayEdgesTest::theOldestEntryGoes);
        Due.sentence("10", "so the log never holds more than 64 entries", PlayEdgesTest::neverMoreThan64);
        Due.sentence("10", "the move list and status are recomputed;", PlayEdgesTest::listAndStatusFollow);
        Due.sentence("10", "the answer is true.", PlayEdgesTest::everyListedMoveIsPlayed);
        Due.sentence("10", "`p0 + 32*pk + 1024*(number of pieces captured) + 16384*(1 if a man was crowned by this move, else 0)`",
                PlayEdgesTest::theSmallestAndTheGreatestEntries);
        Due.sentence("10", "The draw limit and `lastValue()` are not changed.", PlayEdgesTest::limitAndValueStay);
        Due.finish();
    }

    private static void noPlayAfterTheEnd() {
        for (DraughtsEngine engine : Positions.ofEveryEnd()) {
            List<Integer> before = Due.snapshot(engine);
            for (int index = -2; index <= 50; index++) {
                refused(engine, index, before);
            }
            for (int index : FAR) {
                refused(engine, index, before);
            }
        }
    }

    private static void noPlayOfNoMove() {
        DraughtsEngine shortened = Positions.mostCaptures();
        shortened.reset(false);
        DraughtsEngine[] engines = {new DraughtsEngine(40), Positions.of(40, 0, 4, 1), Positions.played(),
            Positions.mostCaptures(), Positions.mostSimpleMoves(), shortened};
        for (DraughtsEngine engine : engines) {
            List<Integer> before = Due.snapshot(engine);
            for (int index = engine.moveCount(); index <= 100; index++) {
                refused(engine, index, before);
            }
            for (int index : FAR) {
                refused(engine, index, before);
            }
            Due.yes("the last move is played", engine.play(engine.moveCount() - 1));
        }
    }

    private static void theFirstAndTheLastMove() {
        DraughtsEngine engine = new DraughtsEngine(40);
        Due.yes("play(0)", engine.play(0));
        stands("play(0)", engine, 8, 0, 12, 1);
        Due.is("sideToMove()", engine.sideToMove(), 1);
        Due.yes("play(6)", engine.play(6));
        stands("play(6)", engine, 23, 0, 19, 3);
        Due.is("sideToMove()", engine.sideToMove(), 0);
        engine = Positions.mostSimpleMoves();
        Due.yes("play(41)", engine.play(41));
        stands("play(41)", engine, 23, 0, 27, 2);
        Due.is("drawCounter()", engine.drawCounter(), 1);
        engine = Positions.mostSimpleMoves();
        Due.yes("play(0)", engine.play(0));
        stands("play(0)", engine, 4, 0, 0, 2);
        engine = Positions.longestPath();
        int longest = indexOfLongest(engine);
        Due.yes("nine foes are taken", engine.play(longest));
        for (int square = 0; square < 31; square++) {
            Due.is("pieceAt(" + square + ")", engine.pieceAt(square), square == 27 ? 2 : 0);
        }
        Due.is("the tenth foe stays", engine.pieceAt(31), 4);
        Due.is("drawCounter()", engine.drawCounter(), 0);
    }

    private static void oneEntryIsAppended() {
        DraughtsEngine engine = new DraughtsEngine(40);
        for (int ply = 1; ply <= 10; ply++) {
            int due = engine.moveSquare(0, 0) + 32 * engine.moveSquare(0, engine.moveLength(0) - 1);
            Due.yes("play(0)", engine.play(0));
            Due.is("logLength()", engine.logLength(), ply);
            Due.is("squares of the newest entry", engine.logEntry(ply - 1) % 1024, due);
            Due.no("a refused play", engine.play(-1));
            Due.is("logLength() after a refused play", engine.logLength(), ply);
        }
    }

    /** More than 300 plies: the kings shuttle, and a man's move now and then puts the draw off. */
    private static void theOldestEntryGoes() {
        List<Integer> all = new ArrayList<>();
        DraughtsEngine engine = Positions.of(80, 0, 0, 2, 12, 1, 31, 4);
        int[] man = {12, 16, 20, 24};
        for (int round = 0; round < 4; round++) {
            for (int ply = 0; ply < 70; ply++) {
                playAndCompare(engine, engine.sideToMove(), all);
            }
            int black = indexFrom(engine, man[round]);
            playAndCompare(engine, black, all);
            playAndCompare(engine, 1, all);
        }
        Due.is("the man was crowned", engine.pieceAt(28), 2);
        for (int ply = 0; ply < 70; ply++) {
            playAndCompare(engine, engine.sideToMove(), all);
        }
        Due.is("plies", all.size(), 358);
    }

    private static void neverMoreThan64() {
        DraughtsEngine engine = Positions.twoKings(80);
        for (int ply = 1; ply <= 80; ply++) {
            Positions.shuttle(engine, 1);
            Due.is("logLength() after " + ply, engine.logLength(), ply < 64 ? ply : 64);
            Due.is("logEntry(64) after " + ply, engine.logEntry(64), -1);
        }
    }

    private static void listAndStatusFollow() {
        DraughtsEngine engine = Positions.of(40, 0, 17, 1, 22, 3);
        engine.play(0);
        ended("the last white piece is taken", engine, DraughtsEngine.BLACK_WINS);
        engine = Positions.of(40, 1, 22, 3, 17, 1);
        engine.play(0);
        ended("the last black piece is taken", engine, DraughtsEngine.WHITE_WINS);
        engine = Positions.of(40, 1, 12, 1, 16, 3, 25, 3);
        Positions.move(engine, 25, 21);
        ended("the last black man is barred", engine, DraughtsEngine.WHITE_WINS);
        engine = Positions.of(40, 0, 19, 3, 15, 1, 6, 1);
        Positions.move(engine, 6, 10);
        ended("the last white man is barred", engine, DraughtsEngine.BLACK_WINS);
        engine = Positions.twoKings(4);
        Positions.shuttle(engine, 3);
        Due.is("one ply before the draw", engine.status(), DraughtsEngine.ONGOING);
        Positions.movesAre("one ply before the draw", engine, Positions.path(27, 23), Positions.path(27, 31));
        Positions.shuttle(engine, 1);
        ended("the draw", engine, DraughtsEngine.DRAW);
        engine = new DraughtsEngine(40);
        engine.play(0);
        Due.is("the game goes on", engine.status(), DraughtsEngine.ONGOING);
        Positions.movesAre("white's moves", engine, Positions.path(20, 16), Positions.path(21, 16), Positions.path(21, 17),
                Positions.path(22, 17), Positions.path(22, 18), Positions.path(23, 18), Positions.path(23, 19));
    }

    private static void everyListedMoveIsPlayed() {
        for (int n = 0; n < 3; n++) {
            int count = many(n).moveCount();
            for (int index = 0; index < count; index++) {
                DraughtsEngine engine = many(n);
                int from = engine.moveSquare(index, 0);
                int to = engine.moveSquare(index, engine.moveLength(index) - 1);
                Due.yes("play(" + index + ")", engine.play(index));
                Due.is("squares of the entry", engine.logEntry(0) % 1024, from + 32 * to);
                Due.is("pieceAt(" + to + ")", engine.pieceAt(to), n == 2 ? 1 : 2);
            }
        }
    }

    private static DraughtsEngine many(int n) {
        return n == 0 ? Positions.mostCaptures() : n == 1 ? Positions.mostSimpleMoves() : new DraughtsEngine(40);
    }

    private static void theSmallestAndTheGreatestEntries() {
        entryIs("a king to square 0", Positions.of(40, 1, 4, 4, 31, 2), 0, 4);
        entryIs("a king from square 0", Positions.of(40, 0, 0, 2, 31, 4), 0, 32 * 4);
        entryIs("a king to square 31", Positions.of(40, 0, 27, 2, 0, 4), 1, 27 + 32 * 31);
        entryIs("a king from square 31", Positions.of(40, 1, 31, 4, 0, 2), 0, 31 + 32 * 26);
        entryIs("a man crowned on 0", Positions.of(40, 1, 4, 3, 31, 2), 0, 4 + 16384);
        entryIs("a man crowned on 31", Positions.of(40, 0, 27, 1, 0, 4), 0, 27 + 32 * 31 + 16384);
        entryIs("a man before the last row", Positions.of(40, 0, 23, 1, 0, 4), 1, 23 + 32 * 27);
        entryIs("a white man before the last row", Positions.of(40, 1, 8, 3, 31, 2), 0, 8 + 32 * 4);
        entryIs("one capture", Positions.of(40, 0, 13, 1, 17, 3), 0, 13 + 32 * 22 + 1024);
        entryIs("three captures and a black crown", Positions.of(40, 0, 5, 1, 9, 3, 18, 3, 26, 3), 0,
                5 + 32 * 30 + 1024 * 3 + 16384);
        entryIs("three captures and a white crown", Positions.of(40, 1, 26, 3, 22, 1, 13, 1, 5, 1), 0,
                26 + 32 + 1024 * 3 + 16384);
        entryIs("three captures of a king", Positions.of(40, 0, 5, 2, 9, 3, 18, 3, 26, 3), 0, 5 + 32 * 30 + 1024 * 3);
        DraughtsEngine engine = Positions.longestPath();
        entryIs("nine captures", engine, indexOfLongest(engine), 32 * 27 + 1024 * 9);
        entryIs("a path back to its first square", Positions.of(40, 0, 8, 2, 5, 3, 6, 3, 13, 3, 14, 3), 0,
                8 + 32 * 8 + 1024 * 4);
    }

    private static void limitAndValueStay() {
        for (int limit : new int[] {4, 7, 80}) {
            DraughtsEngine engine = Positions.of(limit, 0, 0, 2, 1, 2, 31, 4);
            engine.search(1);
            for (int ply = 1; ply < limit; ply++) {
                Positions.shuttle(engine, 1);
                Due.is("lastValue() after " + ply, engine.lastValue(), 250);
                Due.is("status() after " + ply, engine.status(), DraughtsEngine.ONGOING);
            }
            Positions.shuttle(engine, 1);
            Due.is("lastValue() at the draw", engine.lastValue(), 250);
            Due.is("status() at the draw", engine.status(), DraughtsEngine.DRAW);
        }
        DraughtsEngine engine = new DraughtsEngine(40);
        engine.play(0);
        Due.is("no search yet", engine.lastValue(), 0);
    }

    private static void refused(DraughtsEngine engine, int index, List<Integer> before) {
        Due.no("play(" + index + ")", engine.play(index));
        Due.unchanged("play(" + index + ")", engine, before);
    }

    private static void stands(String what, DraughtsEngine engine, int from, int left, int to, int landed) {
        Due.is(what + ": pieceAt(" + from + ")", engine.pieceAt(from), left);
        Due.is(what + ": pieceAt(" + to + ")", engine.pieceAt(to), landed);
    }

    private static void ended(String what, DraughtsEngine engine, int status) {
        Due.is(what + ": status()", engine.status(), status);
        Due.is(what + ": moveCount()", engine.moveCount(), 0);
        Due.is(what + ": moveLength(0)", engine.moveLength(0), -1);
    }

    private static void entryIs(String what, DraughtsEngine engine, int index, int entry) {
        Due.yes(what + ": play(" + index + ")", engine.play(index));
        Due.is(what + ": logLength()", engine.logLength(), 1);
        Due.is(what + ": logEntry(0)", engine.logEntry(0), entry);
    }

    /** Plays a move without a capture, and holds the whole log against the last 64 moves. */
    private static void playAndCompare(DraughtsEngine engine, int index, List<Integer> all) {
        int from = engine.moveSquare(index, 0);
        int to = engine.moveSquare(index, 1);
        int crowned = engine.pieceAt(from) == 1 && to >= 28 ? 16384 : 0;
        Due.yes("play(" + index + ")", engine.play(index));
        all.add(from + 32 * to + crowned);
        int first = Math.max(0, all.size() - 64);
        Due.is("logLength() after " + all.size(), engine.logLength(), all.size() - first);
        for (int i = first; i < all.size(); i++) {
            Due.is("logEntry(" + (i - first) + ") after " + all.size(), engine.logEntry(i - first), all.get(i));
        }
    }

    private static int indexFrom(DraughtsEngine engine, int from) {
        for (int index = 0; index < engine.moveCount(); index++) {
            if (engine.moveSquare(index, 0) == from) {
                return index;
            }
        }
        return -1;
    }

    private static int indexOfLongest(DraughtsEngine engine) {
        int found = 0;
        for (int index = 0; index < engine.moveCount(); index++) {
            if (engine.moveLength(index) > engine.moveLength(found)) {
                found = index;
            }
        }
        return found;
    }
}
