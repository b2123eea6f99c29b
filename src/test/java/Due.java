import java.util.ArrayList;
import java.util.List;

/** Counts and prints the answers that are not as due. */
final class Due {
    private static int calls = 0;
    private static int wrong = 0;

    private Due() {
    }

    static void is(String call, long got, long want) {
        calls++;
        if (got != want) {
            wrong++;
            System.out.println(call + " answered " + got + ", due is " + want);
        }
    }

    static void yes(String call, boolean got) {
        is(call, got ? 1 : 0, 1);
    }

    static void no(String call, boolean got) {
        is(call, got ? 1 : 0, 0);
    }

    /** Holds the object's answers against those of an earlier snapshot. */
    static void unchanged(String call, DraughtsEngine engine, List<Integer> before) {
        calls++;
        List<Integer> now = snapshot(engine);
        if (!now.equals(before)) {
            wrong++;
            System.out.println(call + " changed the object from " + before + " to " + now);
        }
    }

    /** Every answer that the object gives without being changed. */
    static List<Integer> snapshot(DraughtsEngine engine) {
        List<Integer> answers = gameSnapshot(engine);
        answers.add(engine.lastValue());
        return answers;
    }

    /** As snapshot, without lastValue(). */
    static List<Integer> gameSnapshot(DraughtsEngine engine) {
        List<Integer> answers = new ArrayList<>();
        for (int square = -1; square <= 32; square++) {
            answers.add(engine.pieceAt(square));
        }
        answers.add(engine.sideToMove());
        answers.add(engine.status());
        answers.add(engine.drawCounter());
        answers.add(engine.moveCount());
        for (int index = -1; index <= engine.moveCount(); index++) {
            answers.add(engine.moveLength(index));
            for (int k = -1; k <= engine.moveLength(index); k++) {
                answers.add(engine.moveSquare(index, k));
            }
        }
        answers.add(engine.logLength());
        for (int i = -1; i <= engine.logLength(); i++) {
            answers.add(engine.logEntry(i));
        }
        return answers;
    }

    /** Ends the test: exit code 1 if an answer was wrong. */
    static void finish() {
        System.out.println(wrong == 0 ? calls + " answers are as due" : wrong + " of " + calls + " answers are not as due");
        if (wrong != 0) {
            System.exit(1);
        }
    }
}
