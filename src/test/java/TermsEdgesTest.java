import java.util.List;

/** The boundary cases that 'Terms used below' names, on which the promises rest, a test for each sentence. */
public final class TermsEdgesTest {
    private static final int[][] STEPS = {{-1, -1}, {-1, 1}, {1, -1}, {1, 1}};

    public static void main(String[] args) {
        board();
        moves();
        moveList();
        applyingAMove();
        status();
        searchValue();
        Due.finish();
    }

    private static void board() {
        Due.sentence("Board", "otherwise there is none.", TermsEdgesTest::noStepOverTheEdge);
        Due.sentence("Board", "BLACK moves toward higher rows (`dr = +1`), WHITE toward lower rows (`dr = -1`).",
                TermsEdgesTest::menAtTheEdge);
        Due.sentence("Board", "A black man is crowned on row 7 (squares 28..31), a white man on row 0 (squares 0..3).",
                TermsEdgesTest::crownedOnEverySquareOfTheRow);
        Due.sentence("Board", "A man never stands on its own crowning row.", TermsEdgesTest::noManOnItsCrowningRow);
    }

    private static void noStepOverTheEdge() {
        for (int square = 0; square < 32; square++) {
            for (int side = 0; side <= 1; side++) {
                DraughtsEngine engine = Positions.of(40, side, square, side == 0 ? 2 : 4);
                int index = 0;
                for (int[] step : STEPS) {
                    int to = step(square, step);
                    if (to >= 0) {
                        Due.is("king on " + square, engine.moveSquare(index, 1), to);
                        index++;
                    }
                }
                Due.is("king on " + square, engine.moveCount(), index);
            }
        }
    }

    private static void menAtTheEdge() {
        for (int square = 0; square < 32; square++) {
            if (square < 28) {
                manMoves(Positions.of(40, 0, square, 1), square, STEPS[2], STEPS[3]);
            }
            if (square > 3) {
                manMoves(Positions.of(40, 1, square, 3), square, STEPS[0], STEPS[1]);
            }
        }
    }

    private static void manMoves(DraughtsEngine engine, int square, int[] left, int[] right) {
        int index = 0;
        for (int[] step : new int[][] {left, right}) {
            int to = step(square, step);
            if (to >= 0) {
                Due.is("man on " + square, engine.moveSquare(index, 1), to);
                index++;
            }
        }
        Due.is("man on " + square, engine.moveCount(), index);
    }

    private static void crownedOnEverySquareOfTheRow() {
        for (int square = 4; square < 28; square++) {
            crownedAsDue(0, square, 1);
            crownedAsDue(1, square, 3);
        }
    }

    private static void crownedAsDue(int side, int square, int man) {
        int count = Positions.of(40, side, square, man).moveCount();
        for (int index = 0; index < count; index++) {
            DraughtsEngine engine = Positions.of(40, side, square, man);
            int to = engine.moveSquare(index, 1);
            boolean crowned = side == 0 ? to >= 28 : to <= 3;
            engine.play(index);
            Due.is("man from " + square + " on " + to, engine.pieceAt(to), crowned ? man + 1 : man);
            Due.is("its log entry", engine.logEntry(0), square + 32 * to + (crowned ? 16384 : 0));
        }
    }

    private static void noManOnItsCrowningRow() {
        for (int game = 0; game < 40; game++) {
            DraughtsEngine engine = new DraughtsEngine(40);
            for (int ply = 0; ply < 150 && engine.status() == 0; ply++) {
                engine.play((ply * 7 + game * game) % engine.moveCount());
                for (int k = 0; k < 4; k++) {
                    Due.yes("black's crowning row", engine.pieceAt(28 + k) != 1);
                    Due.yes("white's crowning row", engine.pieceAt(k) != 3);
                }
            }
        }
        for (int k = 0; k < 4; k++) {
            DraughtsEngine engine = Positions.of(40, 0);
            Due.no("a black man set there", engine.place(28 + k, 1));
            Due.no("a white man set there", engine.place(k, 3));
        }
    }

    private static void moves() {
        Due.sentence("Moves", "and `p1` is empty.", TermsEdgesTest::noStepOntoAPiece);
        Due.sentence("Moves", "the neighbour `l` of `n` in D exists", TermsEdgesTest::noJumpOverTheEdge);
        Due.sentence("Moves", "and is empty; the jump lands on `l` and captures `n`.", TermsEdgesTest::noJumpOntoAPiece);
        Due.sentence("Moves", "holds an opponent piece", TermsEdgesTest::noJumpOverOwnPieces);
        Due.sentence("Moves", "Men use only their forward directions; kings use all four.", TermsEdgesTest::menJumpForwardOnly);
        Due.sentence("Moves", "not already jumped earlier in this move", TermsEdgesTest::noPieceIsJumpedTwice);
        Due.sentence("Moves", "During a move `p0` counts as empty", TermsEdgesTest::theFirstSquareCountsAsEmpty);
        Due.sentence("Moves", "jumped pieces stay on their squares (they are occupied and can not be jumped again) until the move ends.",
                TermsEdgesTest::jumpedPiecesStayTillTheEnd);
        Due.sentence("Moves", "it ends when the moving piece is a man that has landed on its crowning row",
                TermsEdgesTest::crowningEndsTheMove);
        Due.sentence("Moves", "or when no jump is possible from `pk`.", TermsEdgesTest::aPathGoesToItsEnd);
        Due.sentence("Moves", "Any maximal path may be chosen; there is no rule of taking the most.", TermsEdgesTest::allPathsAreListed);
        Due.sentence("Moves", "If the side to move has at least one capture move, the legal moves are exactly its capture moves",
                TermsEdgesTest::captureIsCompulsory);
    }

    private static void noStepOntoAPiece() {
        for (int other = 1; other <= 4; other++) {
            // The king sits in the corner behind a piece that can't be jumped.
            DraughtsEngine engine = Positions.of(40, 0, 3, 2, 7, other, 10, 3);
            for (int index = 0; index < engine.moveCount(); index++) {
                Due.yes("no step from 3", engine.moveSquare(index, 0) != 3);
            }
            Due.is("status()", engine.status(), other <= 2 ? DraughtsEngine.ONGOING : DraughtsEngine.WHITE_WINS);
        }
        Positions.movesAre("an own man ahead", Positions.of(40, 0, 17, 1, 21, 1), path(17, 22), path(21, 24), path(21, 25));
    }

    /** A king beside one foe, on every square and in every direction: a jump if there is a square beyond. */
    private static void noJumpOverTheEdge() {
        for (int square = 0; square < 32; square++) {
            for (int[] step : STEPS) {
                int over = step(square, step);
                if (over < 0) {
                    continue;
                }
                int to = step(over, step);
                for (int side = 0; side <= 1; side++) {
                    String what = "king on " + square + ", foe on " + over;
                    DraughtsEngine engine = Positions.of(40, side, square, side == 0 ? 2 : 4, over, side == 0 ? 4 : 2);
                    if (to >= 0) {
                        Positions.movesAre(what, engine, path(square, to));
                    } else {
                        onlySteps(what, engine);
                    }
                }
            }
        }
    }

    private static void noJumpOntoAPiece() {
        for (int square = 0; square < 32; square++) {
            for (int[] step : STEPS) {
                int over = step(square, step);
                int to = over < 0 ? -1 : step(over, step);
                if (to < 0) {
                    continue;
                }
                onlySteps("an own king beyond", Positions.of(40, 0, square, 2, over, 4, to, 2));
                onlySteps("a foe beyond", Positions.of(40, 0, square, 2, over, 4, to, 4));
                DraughtsEngine engine = Positions.of(40, 0, square, 2, over, 4);
                Due.yes("nothing beyond", engine.play(0));
                Due.is("the foe is gone", engine.pieceAt(over), 0);
                Due.is("the king has landed", engine.pieceAt(to), 2);
                Due.is("one is captured", engine.logEntry(0), square + 32 * to + 1024);
            }
        }
    }

    private static void noJumpOverOwnPieces() {
        for (int own = 1; own <= 2; own++) {
            onlySteps("own pieces around", Positions.of(40, 0, 17, 2, 13, own, 14, own, 21, own, 22, own));
        }
        for (int own = 3; own <= 4; own++) {
            onlySteps("own pieces around", Positions.of(40, 1, 17, 4, 13, own, 14, own, 21, own, 22, own));
        }
    }

    private static void menJumpForwardOnly() {
        for (int foe = 3; foe <= 4; foe++) {
            Positions.movesAre("black man", Positions.of(40, 0, 17, 1, 13, foe, 14, foe, 21, foe, 22, foe), path(17, 24), path(17, 26));
            Positions.movesAre("black king", Positions.of(40, 0, 17, 2, 13, foe, 14, foe, 21, foe, 22, foe),
                    path(17, 8), path(17, 10), path(17, 24), path(17, 26));
        }
        for (int foe = 1; foe <= 2; foe++) {
            Positions.movesAre("white man", Positions.of(40, 1, 17, 3, 13, foe, 14, foe, 21, foe, 22, foe), path(17, 8), path(17, 10));
            Positions.movesAre("white king", Positions.of(40, 1, 17, 4, 13, foe, 14, foe, 21, foe, 22, foe),
                    path(17, 8), path(17, 10), path(17, 24), path(17, 26));
        }
        Positions.movesAre("a black man does not turn back", Positions.of(40, 0, 17, 1, 22, 3, 23, 3), path(17, 26));
        Positions.movesAre("a white man does not turn back", Positions.of(40, 1, 14, 3, 9, 1, 8, 1), path(14, 5));
    }

    private static void noPieceIsJumpedTwice() {
        Positions.movesAre("not back over it", Positions.of(40, 0, 0, 2, 5, 3), path(0, 9));
        Positions.movesAre("not back over it after a second", Positions.of(40, 0, 0, 2, 5, 3, 14, 3), path(0, 9, 18));
        Positions.movesAre("a circle ends where it began", Positions.of(40, 0, 8, 2, 5, 3, 6, 3, 13, 3, 14, 3),
                path(8, 1, 10, 17, 8), path(8, 17, 10, 1, 8));
        // Nine jumps, and no tenth back over any of the nine.
        DraughtsEngine engine = Positions.longestPath();
        int longest = 0;
        for (int index = 0; index < engine.moveCount(); index++) {
            longest = Math.max(longest, engine.moveLength(index));
        }
        Due.is("the longest path", longest, 10);
    }

    private static void theFirstSquareCountsAsEmpty() {
        Positions.movesAre("black, through the first square", Positions.of(40, 0, 10, 2, 6, 3, 5, 3, 13, 3, 14, 3, 15, 3),
                path(10, 1, 8, 17, 10, 19), path(10, 17, 8, 1, 10, 19), path(10, 19));
        Positions.movesAre("white, through the first square", Positions.of(40, 1, 21, 4, 25, 1, 26, 1, 18, 1, 17, 1, 16, 1),
                path(21, 12), path(21, 14, 23, 30, 21, 12), path(21, 30, 23, 14, 21, 12));
        Positions.movesAre("a circle closes", Positions.of(40, 1, 8, 4, 5, 1, 6, 1, 13, 1, 14, 1),
                path(8, 1, 10, 17, 8), path(8, 17, 10, 1, 8));
    }

    /** The king comes back to its first square and meets the foes of its first round again. */
    private static void jumpedPiecesStayTillTheEnd() {
        DraughtsEngine engine = Positions.of(40, 0, 8, 2, 5, 3, 6, 4, 13, 3, 14, 4, 31, 4);
        Positions.movesAre("one round only", engine, path(8, 1, 10, 17, 8), path(8, 17, 10, 1, 8));
        Due.is("on the board before", engine.pieceAt(5), 3);
        engine.play(0);
        for (int square : new int[] {5, 6, 13, 14}) {
            Due.is("gone after: pieceAt(" + square + ")", engine.pieceAt(square), 0);
        }
        Due.is("each is counted once", engine.logEntry(0), 8 + 32 * 8 + 1024 * 4);
    }

    /** On every crowning square, with a foe beside it that a king could go on to take. */
    private static void crowningEndsTheMove() {
        crowning(20, 25, 29, 24, 31);
        Positions.movesAre("a black man on 28", Positions.of(40, 0, 21, 1, 24, 3, 25, 4), path(21, 28), path(21, 30));
        Positions.movesAre("a black man on 29", Positions.of(40, 0, 20, 1, 24, 3, 25, 3), path(20, 29));
        Positions.movesAre("a black king on 29", Positions.of(40, 0, 20, 2, 24, 3, 25, 3), path(20, 29, 22));
        Positions.movesAre("a black man on 30", Positions.of(40, 0, 21, 1, 25, 3, 26, 3), path(21, 30));
        Positions.movesAre("a black king on 30", Positions.of(40, 0, 21, 2, 25, 3, 26, 3), path(21, 30, 23));
        Positions.movesAre("a black man on 31", Positions.of(40, 0, 22, 1, 26, 3, 27, 3), path(22, 31));
        Positions.movesAre("a white man on 0", Positions.of(40, 1, 9, 3, 5, 1, 4, 1), path(9, 0));
        Positions.movesAre("a white man on 1", Positions.of(40, 1, 10, 3, 6, 1, 5, 1), path(10, 1));
        Positions.movesAre("a white king on 1", Positions.of(40, 1, 10, 4, 6, 1, 5, 1), path(10, 1, 8));
        Positions.movesAre("a white man on 2", Positions.of(40, 1, 11, 3, 7, 1, 6, 1), path(11, 2));
        Positions.movesAre("a white king on 2", Positions.of(40, 1, 11, 4, 7, 1, 6, 1), path(11, 2, 9));
        Positions.movesAre("a white man on 3", Positions.of(40, 1, 10, 3, 7, 1, 6, 2), path(10, 1), path(10, 3));
        Positions.movesAre("a black man goes through row 6", Positions.of(40, 0, 9, 1, 14, 3, 22, 3), path(9, 18, 25));
        Positions.movesAre("a black man on white's crowning row", Positions.of(40, 0, 1, 1, 6, 3, 15, 3), path(1, 10, 19));
    }

    private static void crowning(int from, int beside, int to, int over, int far) {
        DraughtsEngine engine = Positions.of(40, 0, from, 1, over, 3, beside, 3, far, 4);
        Positions.movesAre("crowned in passing", engine, path(from, to));
        engine.play(0);
        Due.is("the new king", engine.pieceAt(to), 2);
        Due.is("the foe it might have taken as a king", engine.pieceAt(beside), 3);
        Due.is("white is to move", engine.sideToMove(), 1);
    }

    private static void aPathGoesToItsEnd() {
        Positions.movesAre("one jump", Positions.of(40, 0, 9, 1, 14, 3), path(9, 18));
        Positions.movesAre("two jumps, not one", Positions.of(40, 0, 9, 1, 14, 3, 22, 3), path(9, 18, 25));
        Positions.movesAre("three jumps, not two", Positions.of(40, 0, 5, 1, 9, 3, 18, 3, 26, 3), path(5, 14, 23, 30));
        Positions.movesAre("the second is barred", Positions.of(40, 0, 9, 1, 14, 3, 22, 3, 25, 3), path(9, 18));
        Positions.movesAre("the second is over the edge", Positions.of(40, 0, 14, 1, 18, 3, 27, 3), path(14, 23));
        Positions.movesAre("a king goes on from its last row", Positions.of(40, 0, 21, 2, 25, 3, 26, 3, 19, 3),
                path(21, 30, 23));
    }

    private static void allPathsAreListed() {
        Positions.movesAre("one or two", Positions.of(40, 0, 9, 1, 13, 3, 14, 3, 22, 3), path(9, 16), path(9, 18, 25));
        Positions.movesAre("two ways after one jump", Positions.of(40, 0, 1, 1, 6, 3, 14, 3, 15, 3), path(1, 10, 17), path(1, 10, 19));
        Positions.movesAre("two pieces", Positions.of(40, 0, 0, 1, 5, 3, 14, 3, 19, 1, 24, 1, 23, 3), path(0, 9, 18, 27), path(19, 26));
        DraughtsEngine engine = Positions.of(40, 0, 9, 1, 13, 3, 14, 3, 22, 3);
        Due.yes("the shorter is played", engine.play(0));
        Due.is("its log entry", engine.logEntry(0), 9 + 32 * 16 + 1024);
    }

    private static void captureIsCompulsory() {
        DraughtsEngine engine = Positions.of(40, 0, 0, 2, 4, 1, 13, 1, 17, 3, 30, 4);
        Positions.movesAre("one capture bars all steps", engine, path(13, 22));
        engine.place(22, 4);
        onlySteps("no capture is left", engine);
        engine = Positions.of(40, 1, 31, 4, 27, 3, 18, 3, 14, 1, 1, 2);
        Positions.movesAre("white's capture", engine, path(18, 9));
        engine.setSideToMove(0);
        Positions.movesAre("black's capture", engine, path(14, 23));
    }

    private static void moveList() {
        Due.sentence("Move list", "the first difference decides (smaller first)", TermsEdgesTest::pathsAreInOrder);
        Due.sentence("Move list", "Only the first `MAX_MOVES` moves in this order are kept", TermsEdgesTest::theFullestListsAreWhole);
        Due.sentence("Move list", "The list is empty whenever `status()` is not ONGOING.", TermsEdgesTest::noListAfterTheEnd);
        Due.sentence("Move list", "Index 0 is the first move.", TermsEdgesTest::theFirstHasIndex0);
    }

    private static void pathsAreInOrder() {
        for (DraughtsEngine engine : new DraughtsEngine[] {new DraughtsEngine(40), Positions.mostCaptures(),
            Positions.mostSimpleMoves(), Positions.longestPath()}) {
            for (int index = 1; index < engine.moveCount(); index++) {
                int k = 0;
                while (k < 12 && engine.moveSquare(index - 1, k) == engine.moveSquare(index, k)) {
                    k++;
                }
                Due.yes("move " + index + " at " + k, engine.moveSquare(index - 1, k) < engine.moveSquare(index, k));
            }
        }
        Positions.movesAre("a difference at the last square", Positions.of(40, 0, 1, 1, 6, 3, 14, 3, 15, 3),
                path(1, 10, 17), path(1, 10, 19));
        Positions.movesAre("the longer path before the shorter", Positions.of(40, 0, 9, 1, 13, 3, 14, 3, 21, 3),
                path(9, 16, 25), path(9, 18));
    }

    /**
     * No position has more than 34 capture moves or 42 simple moves (Positions tells how that is known),
     * so nothing is ever cut off: the fullest lists that there are must be whole.
     */
    private static void theFullestListsAreWhole() {
        sameList("most captures", Positions.mostCaptures(), 34);
        sameList("most simple moves", Positions.mostSimpleMoves(), 42);
    }

    private static void sameList(String what, DraughtsEngine engine, int count) {
        Reference reference = new Reference(40);
        reference.reset(true);
        for (int square = 0; square < 32; square++) {
            reference.place(square, engine.pieceAt(square));
        }
        List<List<Integer>> moves = reference.moveList();
        Due.is(what + ": the reference's count", moves.size(), count);
        Due.is(what + ": moveCount()", engine.moveCount(), count);
        for (int index = 0; index < count; index++) {
            for (int k = 0; k < moves.get(index).size(); k++) {
                Due.is(what + ": moveSquare(" + index + ", " + k + ")", engine.moveSquare(index, k), moves.get(index).get(k));
            }
        }
        Due.yes(what + ": the last is played", engine.play(count - 1));
    }

    private static void noListAfterTheEnd() {
        for (DraughtsEngine engine : Positions.ofEveryEnd()) {
            Due.is("moveCount() in status " + engine.status(), engine.moveCount(), 0);
            Due.is("moveLength(0)", engine.moveLength(0), -1);
            Due.is("moveSquare(0, 0)", engine.moveSquare(0, 0), -1);
            Due.no("play(0)", engine.play(0));
            Due.is("search(1)", engine.search(1), DraughtsEngine.NO_MOVE);
        }
    }

    private static void theFirstHasIndex0() {
        DraughtsEngine engine = new DraughtsEngine(40);
        Due.is("moveSquare(0, 0)", engine.moveSquare(0, 0), 8);
        Due.is("moveSquare(0, 1)", engine.moveSquare(0, 1), 12);
        Due.yes("play(0)", engine.play(0));
        Due.is("pieceAt(12)", engine.pieceAt(12), 1);
    }

    private static void applyingAMove() {
        Due.sentence("Applying a move", "The piece leaves `p0`; all jumped pieces are removed; the piece is set on `pk`",
                TermsEdgesTest::whatStandsAfterAMove);
        Due.sentence("Applying a move", "becomes a king if it is a man and `pk` is on its crowning row.",
                TermsEdgesTest::onlyMenAreCrowned);
        Due.sentence("Applying a move",
                "The draw counter becomes 0 if the move captured or the moving piece was a man; otherwise it grows by 1.",
                TermsEdgesTest::whatTheCounterCounts);
        Due.sentence("Applying a move", "The other side is then to move.", TermsEdgesTest::theOtherSideIsToMove);
    }

    private static void whatStandsAfterAMove() {
        DraughtsEngine engine = Positions.of(40, 0, 8, 2, 5, 3, 6, 3, 13, 3, 14, 3, 31, 4);
        engine.play(1);
        for (int square = 0; square < 32; square++) {
            Due.is("a circle: pieceAt(" + square + ")", engine.pieceAt(square), square == 8 ? 2 : square == 31 ? 4 : 0);
        }
        engine = Positions.longestPath();
        int index = 0;
        while (index < 48 && engine.moveLength(index) != 10) {
            index++;
        }
        engine.play(index);
        for (int square = 0; square < 32; square++) {
            Due.is("nine jumps: pieceAt(" + square + ")", engine.pieceAt(square), square == 27 ? 2 : square == 31 ? 4 : 0);
        }
    }

    private static void onlyMenAreCrowned() {
        for (int k = 0; k < 4; k++) {
            DraughtsEngine engine = Positions.of(40, 0, 24 + k, 2, 4, 4);
            Positions.move(engine, 24 + k, 28 + k);
            Due.is("a black king stays", engine.pieceAt(28 + k), 2);
            Due.is("no crown in the log", engine.logEntry(0), 24 + k + 32 * (28 + k));
            engine = Positions.of(40, 1, 4 + k, 4, 27, 2);
            Positions.move(engine, 4 + k, k);
            Due.is("a white king stays", engine.pieceAt(k), 4);
            Due.is("no crown in the log", engine.logEntry(0), 4 + k + 32 * k);
            engine = Positions.of(40, 0, k, 1, 31, 4);
            Positions.move(engine, k, 4 + k);
            Due.is("a black man far from its row", engine.pieceAt(4 + k), 1);
            engine = Positions.of(40, 1, 28 + k, 3, 0, 2);
            Positions.move(engine, 28 + k, 24 + k);
            Due.is("a white man far from its row", engine.pieceAt(24 + k), 3);
        }
    }

    private static void whatTheCounterCounts() {
        counts("a black man steps", 0, 5, 1, 9);
        counts("a white man steps", 1, 26, 3, 22);
        counts("a black man is crowned", 0, 26, 1, 30);
        counts("a white man is crowned", 1, 5, 3, 1);
        counts("a black king steps", 0, 5, 2, 9);
        counts("a white king steps", 1, 26, 4, 22);
        DraughtsEngine engine = Positions.of(40, 1, 31, 4, 14, 4, 5, 2, 3, 2);
        Positions.move(engine, 14, 9);
        Due.is("a quiet ply", engine.drawCounter(), 1);
        Positions.move(engine, 5, 14);
        Due.is("a king's capture", engine.drawCounter(), 0);
        engine = Positions.of(40, 1, 31, 4, 14, 4, 5, 1, 3, 2);
        Positions.move(engine, 14, 9);
        Due.is("a quiet ply", engine.drawCounter(), 1);
        Positions.move(engine, 5, 14);
        Due.is("a man's capture", engine.drawCounter(), 0);
    }

    /** Two quiet plies go before: those of the two kings on 11 and 20 or, if white begins, the other way round. */
    private static void counts(String what, int side, int from, int piece, int to) {
        DraughtsEngine engine = Positions.of(40, side, 11, 2, 20, 4, from, piece);
        if (side == 0) {
            Positions.move(engine, 11, 7);
            Positions.move(engine, 20, 16);
        } else {
            Positions.move(engine, 20, 16);
            Positions.move(engine, 11, 7);
        }
        Due.is(what + ": before", engine.drawCounter(), 2);
        Positions.move(engine, from, to);
        Due.is(what + ": drawCounter()", engine.drawCounter(), piece % 2 == 1 ? 0 : 3);
    }

    private static void theOtherSideIsToMove() {
        DraughtsEngine engine = new DraughtsEngine(40);
        for (int ply = 0; ply < 10; ply++) {
            Due.is("sideToMove() before ply " + ply, engine.sideToMove(), ply % 2);
            engine.play(0);
        }
        engine = Positions.of(40, 0, 9, 1, 14, 3, 22, 3, 31, 4);
        engine.play(0);
        Due.is("after two jumps", engine.sideToMove(), 1);
        engine = Positions.of(40, 1, 22, 3, 17, 1, 0, 1);
        engine.play(0);
        Due.is("after white's jump", engine.sideToMove(), 0);
    }

    private static void status() {
        Due.sentence("Status", "if the side to move has no legal move (counted before the `MAX_MOVES` cut), the other side wins",
                TermsEdgesTest::noMoveLoses);
        Due.sentence("Status", "otherwise, if the draw counter >= the draw limit, DRAW", TermsEdgesTest::theLimitDraws);
        Due.sentence("Status", "otherwise ONGOING.", TermsEdgesTest::belowTheLimitItGoesOn);
    }

    private static void noMoveLoses() {
        Due.is("no black piece", Positions.of(40, 0, 31, 4).status(), DraughtsEngine.WHITE_WINS);
        Due.is("no white piece", Positions.of(40, 1, 0, 2).status(), DraughtsEngine.BLACK_WINS);
        Due.is("no piece, black to move", Positions.of(40, 0).status(), DraughtsEngine.WHITE_WINS);
        Due.is("no piece, white to move", Positions.of(40, 1).status(), DraughtsEngine.BLACK_WINS);
        Due.is("a barred black man", Positions.of(40, 0, 12, 1, 16, 3, 21, 3).status(), DraughtsEngine.WHITE_WINS);
        Due.is("a barred white man", Positions.of(40, 1, 19, 3, 15, 1, 10, 1).status(), DraughtsEngine.BLACK_WINS);
        Due.is("a barred black king", Positions.of(40, 0, 3, 2, 7, 4, 10, 4).status(), DraughtsEngine.WHITE_WINS);
        Due.is("a barred white king", Positions.of(40, 1, 28, 4, 24, 2, 21, 2).status(), DraughtsEngine.BLACK_WINS);
        Due.is("black bars itself", Positions.of(40, 0, 20, 1, 24, 1, 28, 2, 29, 2, 25, 3, 22, 3).status(), DraughtsEngine.WHITE_WINS);
        Due.is("but for one capture", Positions.of(40, 0, 20, 1, 24, 1, 28, 2, 29, 2, 25, 3).status(), DraughtsEngine.ONGOING);
        Due.is("many kings and moves", Positions.mostSimpleMoves().status(), DraughtsEngine.ONGOING);
        Due.is("many captures", Positions.mostCaptures().status(), DraughtsEngine.ONGOING);
        for (int limit : new int[] {4, 5}) {
            DraughtsEngine engine = Positions.blackWon(limit);
            Due.is("a loss goes before a draw", engine.status(), DraughtsEngine.BLACK_WINS);
            engine = Positions.whiteWon(limit);
            Due.is("a loss goes before a draw", engine.status(), DraughtsEngine.WHITE_WINS);
        }
    }

    private static void theLimitDraws() {
        for (int limit : new int[] {4, 5, 64, 79, 80}) {
            DraughtsEngine engine = Positions.twoKings(limit);
            Positions.shuttle(engine, limit);
            Due.is("status() at " + limit, engine.status(), DraughtsEngine.DRAW);
            Due.is("drawCounter() at " + limit, engine.drawCounter(), limit);
        }
        // A capture is open to black, but the fourth quiet ply has ended the game.
        DraughtsEngine engine = Positions.of(4, 0, 5, 2, 14, 4, 31, 4);
        Positions.move(engine, 5, 1);
        Positions.move(engine, 31, 27);
        Positions.move(engine, 1, 5);
        Positions.move(engine, 14, 9);
        Due.is("a draw before a capture", engine.status(), DraughtsEngine.DRAW);
    }

    private static void belowTheLimitItGoesOn() {
        for (int limit : new int[] {4, 5, 64, 79, 80}) {
            DraughtsEngine engine = Positions.twoKings(limit);
            for (int ply = 0; ply < limit; ply++) {
                Due.is("status() with counter " + ply, engine.status(), DraughtsEngine.ONGOING);
                Positions.shuttle(engine, 1);
            }
        }
        DraughtsEngine engine = Positions.of(4, 0, 0, 2, 12, 1, 31, 4);
        Positions.shuttle(engine, 2);
        Positions.move(engine, 12, 16);
        Positions.shuttle(engine, 3);
        Due.is("a man's move puts the draw off", engine.status(), DraughtsEngine.ONGOING);
        Positions.shuttle(engine, 1);
        Due.is("by four plies", engine.status(), DraughtsEngine.DRAW);
    }

    private static void searchValue() {
        Due.sentence("Search value", "if the side to move in P has no legal move: `-10000 + ply`", TermsEdgesTest::aLossIsWorthItsPly);
        Due.sentence("Search value", "else if P's draw counter >= the draw limit: 0", TermsEdgesTest::aDrawIsWorth0);
        Due.sentence("Search value", "else if d == 0: `E(P)`", TermsEdgesTest::theLastPlyIsEvaluated);
        Due.sentence("Search value", "else the maximum over the moves m of P's move list", TermsEdgesTest::theBestReplyCounts);
        Due.sentence("Search value", "`a = r` for a black man on row r and `a = 7 - r` for a white man on row r",
                TermsEdgesTest::theWorthOfAMan);
        Due.sentence("Search value", "A king is worth 250", TermsEdgesTest::theWorthOfAKing);
        Due.sentence("Search value", "Values are from the point of view of the side to move in P.", TermsEdgesTest::whoseValue);
    }

    private static void aLossIsWorthItsPly() {
        for (int depth = 1; depth <= 3; depth++) {
            found("won at ply 1", Positions.of(40, 0, 17, 1, 22, 3), depth, 0, 9999);
            found("won at ply 1 by white", Positions.of(40, 1, 22, 3, 17, 1), depth, 0, 9999);
        }
        found("lost at ply 2, not seen", Positions.of(40, 1, 17, 3, 9, 1, 8, 1, 10, 1), 1, 0, 116 - 3 * 108);
        found("lost at ply 2", Positions.of(40, 1, 17, 3, 9, 1, 8, 1, 10, 1), 2, 0, -9998);
        found("lost at ply 2", Positions.of(40, 1, 17, 3, 9, 1, 8, 1, 10, 1), 3, 0, -9998);
        for (int limit : new int[] {4, 40}) {
            DraughtsEngine engine = Positions.of(limit, 1, 16, 2, 17, 2, 20, 2, 29, 2, 28, 4);
            Positions.move(engine, 28, 24);
            found("won at ply 3, not seen", engine, 2, 0, 750);
            found("won at ply 3, with the counter at 4", engine, 3, 2, 9997);
            Positions.move(engine, 16, 21);
            found("lost at ply 2, with the counter at 4", engine, 2, 0, -9998);
            Positions.move(engine, 24, 28);
            found("won at ply 1, with the counter at 4", engine, 1, 4, 9999);
        }
    }

    private static void aDrawIsWorth0() {
        for (int limit : new int[] {4, 5, 80}) {
            DraughtsEngine engine = Positions.of(limit, 0, 0, 2, 1, 2, 31, 4);
            Positions.shuttle(engine, limit - 3);
            int ahead = engine.sideToMove() == 0 ? 250 : -250;
            found("two plies, no draw yet", engine, 2, 0, ahead);
            found("the draw at ply 3", engine, 3, 0, 0);
            Positions.shuttle(engine, 1);
            found("one ply, no draw yet", engine, 1, 0, -ahead);
            found("the draw at ply 2", engine, 2, 0, 0);
            found("nothing after the draw", engine, 3, 0, 0);
            Positions.shuttle(engine, 1);
            for (int depth = 1; depth <= 3; depth++) {
                found("the draw at ply 1", engine, depth, 0, 0);
            }
        }
        DraughtsEngine engine = Positions.of(4, 0, 0, 2, 11, 1, 31, 4);
        Positions.shuttle(engine, 2);
        found("a man's move is no draw", engine, 1, 2, 250 + 112 - 250);
        Positions.shuttle(engine, 1);
        for (int depth = 1; depth <= 3; depth++) {
            found("no man's move after the draw", engine, depth, 0, 0);
        }
        engine = Positions.of(4, 0, 5, 2, 14, 4, 31, 4);
        Positions.move(engine, 5, 1);
        Positions.move(engine, 31, 27);
        Positions.move(engine, 1, 5);
        found("the draw goes before the capture it opens", engine, 2, 0, 0);
    }

    private static void theLastPlyIsEvaluated() {
        // White's man is left to be taken, which a search of one ply does not see.
        DraughtsEngine engine = Positions.of(40, 1, 17, 3, 9, 1, 8, 1, 10, 1);
        found("the reply is not seen", engine, 1, 0, 116 - 3 * 108);
        found("no piece is taken at ply 0", new DraughtsEngine(40), 1, 0, 4);
        found("nor at ply 2", new DraughtsEngine(40), 2, 0, 0);
        found("nor at ply 3", new DraughtsEngine(40), 3, 0, 4);
    }

    private static void theBestReplyCounts() {
        DraughtsEngine engine = Positions.of(40, 0, 9, 3, 19, 1, 22, 1, 27, 3);
        found("one ply", engine, 1, 0, 16);
        found("two plies", engine, 2, 1, 12);
        found("three plies", engine, 3, 2, 138);
    }

    /** A lone man's worth, told by a king of the other side that steps far from it. */
    private static void theWorthOfAMan() {
        for (int square = 0; square < 32; square++) {
            int row = square / 4;
            if (square < 28) {
                DraughtsEngine engine = Positions.of(40, 1, row < 4 ? 31 : 0, 4, square, 1);
                found("black man on " + square, engine, 1, 0, 250 - 100 - 4 * row);
            }
            if (square > 3) {
                DraughtsEngine engine = Positions.of(40, 0, row < 4 ? 31 : 0, 2, square, 3);
                found("white man on " + square, engine, 1, 0, 250 - 100 - 4 * (7 - row));
            }
        }
    }

    private static void theWorthOfAKing() {
        for (int kings = 1; kings <= 12; kings++) {
            DraughtsEngine engine = new DraughtsEngine(40);
            engine.reset(true);
            for (int n = 0; n < kings; n++) {
                engine.place(n, 2);
            }
            engine.place(31, 4);
            found(kings + " kings against one", engine, 1, 0, 250 * kings - 250);
            engine.setSideToMove(1);
            found("one king against " + kings, engine, 1, 0, 250 - 250 * kings);
        }
    }

    private static void whoseValue() {
        found("black ahead, black to move", Positions.of(40, 0, 0, 2, 1, 2, 31, 4), 1, 0, 250);
        found("black ahead, white to move", Positions.of(40, 1, 0, 2, 1, 2, 31, 4), 1, 0, -250);
        found("white ahead, black to move", Positions.of(40, 0, 0, 2, 30, 4, 31, 4), 2, 0, -250);
        found("white ahead, white to move", Positions.of(40, 1, 0, 2, 30, 4, 31, 4), 3, 0, 250);
    }

    private static void found(String what, DraughtsEngine engine, int depth, int move, int value) {
        Due.is(what + ": search(" + depth + ")", engine.search(depth), move);
        Due.is(what + ": lastValue() after search(" + depth + ")", engine.lastValue(), value);
    }

    /** Holds every move of the list to be a step to a neighbour. */
    private static void onlySteps(String what, DraughtsEngine engine) {
        Due.yes(what + ": moveCount()", engine.moveCount() > 0 || engine.status() != 0);
        for (int index = 0; index < engine.moveCount(); index++) {
            Due.is(what + ": moveLength(" + index + ")", engine.moveLength(index), 2);
            int rows = engine.moveSquare(index, 1) / 4 - engine.moveSquare(index, 0) / 4;
            Due.is(what + ": rows of move " + index, Math.abs(rows), 1);
        }
    }

    private static int step(int square, int[] step) {
        int row = square / 4 + step[0];
        int column = 2 * (square % 4) + (square / 4 % 2 == 0 ? 1 : 0) + step[1];
        return row < 0 || row > 7 || column < 0 || column > 7 ? -1 : row * 4 + column / 2;
    }

    private static int[] path(int... squares) {
        return squares;
    }
}
