import java.lang.reflect.Constructor;
import java.lang.reflect.Field;
import java.lang.reflect.Member;
import java.lang.reflect.Method;
import java.lang.reflect.Modifier;
import java.util.Map;
import java.util.TreeMap;
import java.util.TreeSet;

/** The public face: its constants, constructor and methods, and nothing else that can be seen. */
public final class FaceTest {
    private static final String[] METHODS = {
        "public boolean DraughtsEngine.place(int,int)",
        "public boolean DraughtsEngine.play(int)",
        "public boolean DraughtsEngine.setSideToMove(int)",
        "public int DraughtsEngine.drawCounter()",
        "public int DraughtsEngine.lastValue()",
        "public int DraughtsEngine.logEntry(int)",
        "public int DraughtsEngine.logLength()",
        "public int DraughtsEngine.moveCount()",
        "public int DraughtsEngine.moveLength(int)",
        "public int DraughtsEngine.moveSquare(int,int)",
        "public int DraughtsEngine.pieceAt(int)",
        "public int DraughtsEngine.search(int)",
        "public int DraughtsEngine.sideToMove()",
        "public int DraughtsEngine.status()",
        "public void DraughtsEngine.reset(boolean)",
    };

    private static final Map<String, Integer> CONSTANTS = new TreeMap<>(Map.ofEntries(
            Map.entry("BLACK", 0), Map.entry("WHITE", 1),
            Map.entry("EMPTY", 0), Map.entry("BLACK_MAN", 1), Map.entry("BLACK_KING", 2),
            Map.entry("WHITE_MAN", 3), Map.entry("WHITE_KING", 4),
            Map.entry("ONGOING", 0), Map.entry("BLACK_WINS", 1), Map.entry("WHITE_WINS", 2), Map.entry("DRAW", 3),
            Map.entry("MAX_MOVES", 48), Map.entry("MAX_PIECES", 12), Map.entry("LOG_SIZE", 64),
            Map.entry("NO_MOVE", -1), Map.entry("MIN_DRAW_LIMIT", 4), Map.entry("MAX_DRAW_LIMIT", 80),
            Map.entry("MIN_DEPTH", 1), Map.entry("MAX_DEPTH", 3)));

    public static void main(String[] args) throws IllegalAccessException {
        Class<?> face = DraughtsEngine.class;
        Due.is("class modifiers", face.getModifiers(), Modifier.PUBLIC | Modifier.FINAL);
        Due.is("nested classes", face.getDeclaredClasses().length, 0);
        methodsAreThoseOfTheDocument(face);
        constantsAreThoseOfTheDocument(face);
        Constructor<?>[] constructors = face.getDeclaredConstructors();
        Due.is("constructors", constructors.length, 1);
        Due.yes("constructor", constructors[0].toString().equals("public DraughtsEngine(int)"));
        Due.finish();
    }

    private static void methodsAreThoseOfTheDocument(Class<?> face) {
        TreeSet<String> seen = new TreeSet<>();
        for (Method method : face.getDeclaredMethods()) {
            if (isSeen(method)) {
                seen.add(method.toString());
            }
        }
        Due.yes("methods " + seen, seen.equals(new TreeSet<>(java.util.List.of(METHODS))));
    }

    private static void constantsAreThoseOfTheDocument(Class<?> face) throws IllegalAccessException {
        Map<String, Integer> seen = new TreeMap<>();
        for (Field field : face.getDeclaredFields()) {
            if (isSeen(field)) {
                Due.is(field.toString(), field.getModifiers(), Modifier.PUBLIC | Modifier.STATIC | Modifier.FINAL);
                Due.yes(field + " is an int", field.getType() == int.class);
                seen.put(field.getName(), field.getInt(null));
            }
        }
        Due.yes("constants " + seen, seen.equals(CONSTANTS));
    }

    private static boolean isSeen(Member member) {
        return !Modifier.isPrivate(member.getModifiers()) && !member.isSynthetic();
    }
}
