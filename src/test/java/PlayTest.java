import java.util.List;

/** Promises 7, 8, 10 and 13: status, draw counter, play and the log. */
public final class PlayTest {
    public static void main(String[] args) {
        playMovesAndLogs();
        playRefusesWrongIndexes();
        playRefusesAfterTheEnd();
        capturesAreTaken();
        aPathMayEndWhereItBegan();
        menAreCrowned();
        kingsAreNotCrowned();
        theCounterCountsKingsOnly();
        aBlockedSideLoses();
        theDrawComesAtTheLimit();
        aLossGoesBeforeADraw();
        theLogKeepsTheLast();
        theLogRefusesWrongIndexes();
        Due.finish();
    }

    private static void playMovesAndLogs() {
        DraughtsEngine engine = new DraughtsEngine(40);
        engine.search(2);
        int value = engine.lastValue();
        Due.yes("play(3)", engine.play(3));
        Due.is("pieceAt(9)", engine.pieceAt(9), 0);
        Due.is("pieceAt(14)", engine.pieceAt(14), 1);
        Due.is("sideToMove()", engine.sideToMove(), 1);
        Due.is("status()", engine.status(), 0);
        Due.is("logLength()", engine.logLength(), 1);
        Due.is("logEntry(0)", engine.logEntry(0), 9 + 32 * 14);
        Due.is("lastValue()", engine.lastValue(), value);
        Due.is("moveCount()", engine.moveCount(), 7);
        Due.is("moveSquare(0, 0)", engine.moveSquare(0, 0), 20);
        Due.yes("play(6)", engine.play(6));
        Due.is("logEntry(0)", engine.logEntry(0), 9 + 32 * 14);
        Due.is("logEntry(1)", engine.logEntry(1), 23 + 32 * 19);
        Due.is("sideToMove()", engine.sideToMove(), 0);
    }

    private static void playRefusesWrongIndexes() {
        DraughtsEngine engine = new DraughtsEngine(40);
        engine.play(0);
        engine.search(1);
        List<Integer> before = Due.snapshot(engine);
        for (int wrong : Positions.WRONG) {
            Due.no("play(" + wrong + ")", engine.play(wrong));
        }
        Due.no("play(moveCount())", engine.play(engine.moveCount()));
        Due.unchanged("a refused play", engine, before);
    }

    private static void playRefusesAfterTheEnd() {
        DraughtsEngine drawn = Positions.twoKings(4);
        Positions.shuttle(drawn, 4);
        List<Integer> before = Due.snapshot(drawn);
        Due.no("play(0) after a draw", drawn.play(0));
        Due.no("play(1) after a draw", drawn.play(1));
        Due.unchanged("play after a draw", drawn, before);
        DraughtsEngine lost = Positions.of(40, 0, 17, 1, 22, 3);
        lost.play(0);
        before = Due.snapshot(lost);
        Due.no("play(0) after a loss", lost.play(0));
        Due.no("play(-1) after a loss", lost.play(-1));
        Due.unchanged("play after a loss", lost, before);
    }

    private static void capturesAreTaken() {
        DraughtsEngine engine = Positions.of(40, 0, 9, 1, 13, 3, 14, 4, 22, 3, 31, 4);
        Due.yes("play(1)", engine.play(1));
        Due.is("the man left", engine.pieceAt(9), 0);
        Due.is("first captured", engine.pieceAt(14), 0);
        Due.is("second captured", engine.pieceAt(22), 0);
        Due.is("passed square", engine.pieceAt(18), 0);
        Due.is("landed", engine.pieceAt(25), 1);
        Due.is("not captured", engine.pieceAt(13), 3);
        Due.is("not captured", engine.pieceAt(31), 4);
        Due.is("log", engine.logEntry(0), 9 + 32 * 25 + 1024 * 2);
        Due.is("counter", engine.drawCounter(), 0);
    }

    private static void aPathMayEndWhereItBegan() {
        DraughtsEngine engine = Positions.of(40, 0, 8, 2, 5, 3, 6, 3, 13, 3, 14, 3, 31, 4);
        Due.yes("play(1)", engine.play(1));
        Due.is("the king is back", engine.pieceAt(8), 2);
        for (int square : new int[] {5, 6, 13, 14, 1, 10, 17}) {
            Due.is("pieceAt(" + square + ")", engine.pieceAt(square), 0);
        }
        Due.is("log", engine.logEntry(0), 8 + 32 * 8 + 1024 * 4);
        Due.is("status()", engine.status(), 0);
    }

    private static void menAreCrowned() {
        DraughtsEngine engine = Positions.of(40, 0, 21, 1, 25, 3, 26, 3);
        engine.play(0);
        Due.is("black, by a capture", engine.pieceAt(30), 2);
        Due.is("the other man stays", engine.pieceAt(26), 3);
        Due.is("log", engine.logEntry(0), 21 + 32 * 30 + 1024 + 16384);
        engine = Positions.of(40, 0, 24, 1, 3, 4);
        engine.play(1);
        Due.is("black, by a simple move", engine.pieceAt(29), 2);
        Due.is("log", engine.logEntry(0), 24 + 32 * 29 + 16384);
        Due.is("a crowned man was a man", engine.drawCounter(), 0);
        engine = Positions.of(40, 1, 10, 3, 6, 1, 5, 1);
        engine.play(0);
        Due.is("white, by a capture", engine.pieceAt(1), 4);
        Due.is("log", engine.logEntry(0), 10 + 32 + 1024 + 16384);
        engine = Positions.of(40, 1, 4, 3, 31, 2);
        engine.play(0);
        Due.is("white, by a simple move", engine.pieceAt(0), 4);
        Due.is("log", engine.logEntry(0), 4 + 16384);
        engine = Positions.of(40, 0, 20, 1, 3, 4);
        engine.play(0);
        Due.is("not before the last row", engine.pieceAt(24), 1);
        engine = Positions.of(40, 1, 8, 3, 31, 2);
        engine.play(0);
        Due.is("not before the last row", engine.pieceAt(4), 3);
    }

    private static void kingsAreNotCrowned() {
        DraughtsEngine engine = Positions.of(40, 0, 24, 2, 3, 4);
        Due.yes("24 to 28", engine.play(2));
        Due.is("black king", engine.pieceAt(28), 2);
        Due.is("log", engine.logEntry(0), 24 + 32 * 28);
        engine = Positions.of(40, 1, 4, 4, 31, 2);
        Due.yes("4 to 0", engine.play(0));
        Due.is("white king", engine.pieceAt(0), 4);
        Due.is("log", engine.logEntry(0), 4);
    }

    private static void theCounterCountsKingsOnly() {
        DraughtsEngine engine = Positions.of(40, 0, 0, 2, 16, 1, 31, 4, 15, 3);
        Due.is("at first", engine.drawCounter(), 0);
        Due.yes("king 0 to 4", engine.play(0));
        Due.is("a king's move", engine.drawCounter(), 1);
        Due.yes("king 31 to 27", engine.play(3));
        Due.is("another", engine.drawCounter(), 2);
        Due.yes("man 16 to 20", engine.play(2));
        Due.is("a black man's move", engine.drawCounter(), 0);
        Due.yes("king 27 to 23", engine.play(2));
        Due.is("a king's move", engine.drawCounter(), 1);
        Due.yes("king 4 to 0", engine.play(0));
        Due.is("a king's move", engine.drawCounter(), 2);
        Due.yes("man 15 to 10", engine.play(0));
        Due.is("a white man's move", engine.drawCounter(), 0);
        engine = Positions.of(40, 0, 0, 2, 12, 2, 10, 4, 31, 4);
        Due.yes("king 0 to 4", engine.play(0));
        Due.yes("king 10 to 6", engine.play(0));
        Due.is("two plies", engine.drawCounter(), 2);
        engine = Positions.of(40, 1, 31, 4, 14, 4, 5, 2, 3, 2);
        Due.yes("king 14 to 9", engine.play(0));
        Due.is("one ply", engine.drawCounter(), 1);
        Due.is("a capture is due", engine.moveSquare(0, 1), 14);
        Due.yes("king takes", engine.play(0));
        Due.is("a king's capture", engine.drawCounter(), 0);
    }

    private static void aBlockedSideLoses() {
        DraughtsEngine engine = Positions.of(40, 0, 12, 1, 16, 3, 21, 3);
        Due.is("black man barred", engine.status(), DraughtsEngine.WHITE_WINS);
        Due.is("no moves", engine.moveCount(), 0);
        engine.setSideToMove(1);
        Due.is("white may move", engine.status(), DraughtsEngine.ONGOING);
        engine = Positions.of(40, 1, 19, 3, 15, 1, 10, 1);
        Due.is("white man barred", engine.status(), DraughtsEngine.BLACK_WINS);
        engine = Positions.of(40, 1, 28, 4, 24, 2, 21, 1);
        Due.is("white king barred", engine.status(), DraughtsEngine.BLACK_WINS);
        engine = Positions.of(40, 0, 8, 1, 16, 3, 20, 3, 21, 3);
        Due.yes("8 to 12", engine.play(0));
        Due.is("on it goes", engine.status(), DraughtsEngine.ONGOING);
        Due.yes("21 to 17", engine.play(0));
        Due.is("black must take", engine.status(), DraughtsEngine.ONGOING);
    }

    private static void theDrawComesAtTheLimit() {
        DraughtsEngine engine = Positions.twoKings(6);
        for (int ply = 1; ply <= 6; ply++) {
            Due.is("before ply " + ply, engine.status(), DraughtsEngine.ONGOING);
            Due.is("moves before ply " + ply, engine.moveCount(), 2);
            Positions.shuttle(engine, 1);
            Due.is("counter", engine.drawCounter(), ply);
        }
        Due.is("at the limit", engine.status(), DraughtsEngine.DRAW);
        Due.is("moves at the limit", engine.moveCount(), 0);
        Due.is("counter", engine.drawCounter(), 6);
    }

    /** The fourth quiet ply bars the white king: a loss, though the counter is at its limit. */
    private static void aLossGoesBeforeADraw() {
        DraughtsEngine engine = Positions.of(4, 1, 16, 2, 17, 2, 20, 2, 29, 2, 28, 4);
        Due.yes("28 to 24", engine.play(0));
        Due.yes("16 to 21", engine.play(2));
        Due.yes("24 to 28", engine.play(0));
        Due.is("three plies", engine.drawCounter(), 3);
        Due.yes("29 to 24", engine.play(8));
        Due.is("the move", engine.logEntry(3), 29 + 32 * 24);
        Due.is("at the limit", engine.drawCounter(), 4);
        Due.is("a loss", engine.status(), DraughtsEngine.BLACK_WINS);
    }

    private static void theLogKeepsTheLast() {
        int[] entries = {128, 31 + 32 * 27, 4, 27 + 32 * 31};
        DraughtsEngine engine = Positions.twoKings(80);
        for (int ply = 1; ply <= 80; ply++) {
            Positions.shuttle(engine, 1);
            int length = Math.min(ply, 64);
            Due.is("logLength() after " + ply, engine.logLength(), length);
            for (int i = 0; i < length; i++) {
                Due.is("logEntry(" + i + ") after " + ply, engine.logEntry(i), entries[(ply - length + i) % 4]);
            }
        }
        engine.reset(false);
        engine.play(0);
        Due.is("a new log", engine.logLength(), 1);
        Due.is("a new log", engine.logEntry(0), 8 + 32 * 12);
        Due.is("a new log", engine.logEntry(1), -1);
    }

    private static void theLogRefusesWrongIndexes() {
        DraughtsEngine engine = new DraughtsEngine(40);
        Due.is("empty log", engine.logEntry(0), -1);
        engine.play(0);
        for (int wrong : Positions.WRONG) {
            Due.is("logEntry(" + wrong + ")", engine.logEntry(wrong), -1);
        }
        Due.is("logEntry(1)", engine.logEntry(1), -1);
        engine = Positions.twoKings(80);
        Positions.shuttle(engine, 70);
        for (int wrong : new int[] {-1, 64, 65, Integer.MIN_VALUE, Integer.MAX_VALUE}) {
            Due.is("full log: logEntry(" + wrong + ")", engine.logEntry(wrong), -1);
        }
    }
}
