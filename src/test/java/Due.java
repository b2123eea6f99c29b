import java.util.ArrayList;
import java.util.List;

/** Counts and prints the answers that are not as due. */
final class Due {
    private static int calls = 0;
    private static int wrong = 0;
    private static String heading = "";

    private Due() {
    }

    /** Runs the test of one sentence of the document; what goes wrong is printed under its words. */
    static void sentence(String where, String words, Runnable test) {
        heading = "[" + where + ": " + words + "] ";
        int callsBefore = calls;
        try {
            test.run();
            yes("the test asks something", calls > callsBefore);
        } catch (RuntimeException thrown) {
            wrong++;
            System.out.println(heading + "threw " + thrown);
        }
        heading = "";
    }

    static void is(String call, long got, long want) {
        calls++;
        if (got != want) {
            wrong++;
            System.out.println(heading + call + " answered " + got + ", due is " + want);
        }
    }

    static void yes(String call, boolean got) {
        is(call, got ? 1 : 0, 1);
    }

    static void no(String call, boolean got) {
        is(call, got ? 1 : 0, 0);
    }

    /** Holds the object's answers against those of an earlier snapshot. */
    static void unchanged(String call, DraughtsEngine engine, List<Integer> before) {
        calls++;
        List<Integer> now = snapshot(engine);
        if (!now.equals(before)) {
            wrong++;
            System.out.println(heading + call + " changed the object from " + before + " to " + now);
        }
    }

    /** Every answer that the object gives without being changed. */
    static List<Integer> snapshot(DraughtsEngine engine) {
        List<Integer> answers = gameSnapshot(engine);
        answers.add(engine.lastValue());
        return answers;
    }

    /** As snapshot, without lastValue(). */
    static List<Integer> gameSnapshot(DraughtsEngine engine) {
        List<Integer> answers = board(engine);
        answers.add(engine.sideToMove());
        answers.add(engine.status());
        answers.add(engine.drawCounter());
        answers.addAll(moves(engine));
        answers.addAll(log(engine));
        return answers;
    }

    static List<Integer> board(DraughtsEngine engine) {
        List<Integer> answers = new ArrayList<>();
        for (int square = 0; square < 32; square++) {
            answers.add(engine.pieceAt(square));
        }
        return answers;
    }

    static List<Integer> moves(DraughtsEngine engine) {
        List<Integer> answers = new ArrayList<>();
        int count = engine.moveCount();
        answers.add(count);
        for (int index = 0; index < count; index++) {
            int length = engine.moveLength(index);
            answers.add(length);
            for (int k = 0; k < length; k++) {
                answers.add(engine.moveSquare(index, k));
            }
        }
        return answers;
    }

    static List<Integer> log(DraughtsEngine engine) {
        List<Integer> answers = new ArrayList<>();
        int length = engine.logLength();
        answers.add(length);
        for (int i = 0; i < length; i++) {
            answers.add(engine.logEntry(i));
        }
        return answers;
    }

    /** Ends the test: exit code 1 if an answer was wrong. */
    static void finish() {
        System.out.println(wrong == 0 ? calls + " answers are as due" : wrong + " of " + calls + " answers are not as due");
        if (wrong != 0) {
            System.exit(1);
        }
    }
}
