/**
 * English draughts: board, rules, referee with a move log, and a search of one to three plies.
 *
 * Positions live side by side in levels: level GAME is the game itself, the levels above it
 * belong to the search, which therefore never has to take a move back.
 */
public final class DraughtsEngine {
    public static final int BLACK = 0;
    public static final int WHITE = 1;
    public static final int EMPTY = 0;
    public static final int BLACK_MAN = 1;
    public static final int BLACK_KING = 2;
    public static final int WHITE_MAN = 3;
    public static final int WHITE_KING = 4;
    public static final int ONGOING = 0;
    public static final int BLACK_WINS = 1;
    public static final int WHITE_WINS = 2;
    public static final int DRAW = 3;
    public static final int MAX_MOVES = 48;
    public static final int MAX_PIECES = 12;
    public static final int LOG_SIZE = 64;
    public static final int NO_MOVE = -1;
    public static final int MIN_DRAW_LIMIT = 4;
    public static final int MAX_DRAW_LIMIT = 80;
    public static final int MIN_DEPTH = 1;
    public static final int MAX_DEPTH = 3;

    private static final int NOTHING = -1;
    private static final int SQUARES = 32;
    private static final int ROWS = 8;
    private static final int ROW_SQUARES = 4;
    private static final int FIRST_OF_LAST_ROW = 28;
    private static final int BLACK_START_END = 12;
    private static final int WHITE_START = 20;

    // The directions are numbered so that a higher one always leads to a higher square:
    // trying them in order yields the paths in lexicographic order, without sorting.
    private static final int DIRECTIONS = 4;
    private static final int FIRST_DOWN = 2;

    private static final int GAME = 0;
    private static final int LEVELS = MAX_DEPTH + 1;

    // Each opponent piece is jumped at most once, so a path has at most one square more.
    private static final int PATH_SQUARES = MAX_PIECES + 1;

    private static final int NEIGHBOUR_CELLS = SQUARES * DIRECTIONS;
    private static final int BOARD_CELLS = LEVELS * SQUARES;
    private static final int LIST_CELLS = LEVELS * MAX_MOVES;
    private static final int LIST_SQUARES = LIST_CELLS * PATH_SQUARES;

    // A step enters or leaves a node: under 230,000 for a search of three plies over 48 moves
    // each, and far less for the jump paths of a piece. No run comes near this bound.
    private static final int STEP_BOUND = 1000000;

    private static final int KING_WORTH = 250;
    private static final int MAN_WORTH = 100;
    private static final int ADVANCE_WORTH = 4;
    private static final int LOSS = -10000;
    private static final int BELOW_ALL_VALUES = -20000;

    private static final int LOG_TO = 32;
    private static final int LOG_CAPTURE = 1024;
    private static final int LOG_CROWNED = 16384;

    private final int[] neighbours = new int[NEIGHBOUR_CELLS];

    private final int[] board = new int[BOARD_CELLS];
    private final int[] sides = new int[LEVELS];
    private final int[] counters = new int[LEVELS];
    private final int[] moveTotals = new int[LEVELS];
    private final int[] moveLengths = new int[LIST_CELLS];
    private final int[] moveSquares = new int[LIST_SQUARES];

    private final int[] path = new int[PATH_SQUARES];
    private final int[] jumped = new int[PATH_SQUARES];
    private final int[] nextDirection = new int[PATH_SQUARES];
    private final boolean[] wentOn = new boolean[PATH_SQUARES];

    private final int[] nextMove = new int[LEVELS];
    private final int[] bestMove = new int[LEVELS];
    private final int[] bestValue = new int[LEVELS];

    private final int[] log = new int[LOG_SIZE];
    private final int drawLimit;
    private int logTotal;
    private int gameStatus;
    private int searchValue;

    public DraughtsEngine(int drawLimit) {
        this.drawLimit = clamp(drawLimit, MIN_DRAW_LIMIT, MAX_DRAW_LIMIT);
        fillNeighbours();
        setUp(false);
        forgetHistory();
        refreshGame();
    }

    public void reset(boolean empty) {
        setUp(empty);
        forgetHistory();
        refreshGame();
    }

    public boolean place(int square, int code) {
        if (!isSquare(square) || code < EMPTY || code > WHITE_KING) {
            return false;
        }
        if (isCrowningSquare(code, square)) {
            return false;
        }
        if (code != EMPTY && countOthers(code, square) >= MAX_PIECES) {
            return false;
        }
        board[square] = code;
        forgetHistory();
        refreshGame();
        return true;
    }

    public boolean setSideToMove(int side) {
        if (side != BLACK && side != WHITE) {
            return false;
        }
        sides[GAME] = side;
        forgetHistory();
        refreshGame();
        return true;
    }

    public int pieceAt(int square) {
        return isSquare(square) ? board[square] : NOTHING;
    }

    public int sideToMove() {
        return sides[GAME];
    }

    public int status() {
        return gameStatus;
    }

    public int drawCounter() {
        return counters[GAME];
    }

    public int moveCount() {
        return moveTotals[GAME];
    }

    public int moveLength(int index) {
        return isListed(index) ? moveLengths[index] : NOTHING;
    }

    public int moveSquare(int index, int k) {
        if (!isListed(index) || k < 0 || k >= moveLengths[index]) {
            return NOTHING;
        }
        return moveSquares[index * PATH_SQUARES + k];
    }

    public boolean play(int index) {
        if (gameStatus != ONGOING || !isListed(index)) {
            return false;
        }
        int entry = describeMove(index);
        applyMove(GAME, index, GAME);
        appendToLog(entry);
        refreshGame();
        return true;
    }

    public int search(int depth) {
        if (gameStatus != ONGOING) {
            return NO_MOVE;
        }
        int plies = clamp(depth, MIN_DEPTH, MAX_DEPTH);
        walkTree(plies);
        searchValue = bestValue[GAME];
        return bestMove[GAME];
    }

    public int lastValue() {
        return searchValue;
    }

    public int logLength() {
        return logTotal;
    }

    public int logEntry(int i) {
        return i >= 0 && i < logTotal ? log[i] : NOTHING;
    }

    // ---- Numbers, squares and pieces ----

    private static int clamp(int value, int least, int most) {
        if (value < least) {
            return least;
        }
        return value > most ? most : value;
    }

    private static boolean isSquare(int square) {
        return square >= 0 && square < SQUARES;
    }

    private static int rowOf(int square) {
        return square / ROW_SQUARES;
    }

    private static int columnOf(int square) {
        int shift = rowOf(square) % 2 == 0 ? 1 : 0;
        return 2 * (square % ROW_SQUARES) + shift;
    }

    private static int colourOf(int piece) {
        if (piece == EMPTY) {
            return NOTHING;
        }
        return piece <= BLACK_KING ? BLACK : WHITE;
    }

    private static boolean isMan(int piece) {
        return piece == BLACK_MAN || piece == WHITE_MAN;
    }

    /** Tells whether the piece is a man and the square lies on its crowning row. */
    private static boolean isCrowningSquare(int piece, int square) {
        if (piece == BLACK_MAN) {
            return square >= FIRST_OF_LAST_ROW;
        }
        return piece == WHITE_MAN && square < ROW_SQUARES;
    }

    private static int firstDirection(int piece) {
        return piece == BLACK_MAN ? FIRST_DOWN : 0;
    }

    private static int directionEnd(int piece) {
        return piece == WHITE_MAN ? FIRST_DOWN : DIRECTIONS;
    }

    private static int neighbourOf(int square, int direction) {
        int row = rowOf(square) + (direction < FIRST_DOWN ? -1 : 1);
        int column = columnOf(square) + (direction % 2 == 0 ? -1 : 1);
        if (row < 0 || row >= ROWS || column < 0 || column >= ROWS) {
            return NOTHING;
        }
        return row * ROW_SQUARES + column / 2;
    }

    private static int squareBetween(int from, int to) {
        int row = (rowOf(from) + rowOf(to)) / 2;
        int column = (columnOf(from) + columnOf(to)) / 2;
        return row * ROW_SQUARES + column / 2;
    }

    // ---- The game ----

    private void fillNeighbours() {
        for (int square = 0; square < SQUARES; square++) {
            for (int direction = 0; direction < DIRECTIONS; direction++) {
                neighbours[square * DIRECTIONS + direction] = neighbourOf(square, direction);
            }
        }
    }

    private void setUp(boolean empty) {
        sides[GAME] = BLACK;
        for (int square = 0; square < SQUARES; square++) {
            if (empty) {
                board[square] = EMPTY;
            } else if (square < BLACK_START_END) {
                board[square] = BLACK_MAN;
            } else {
                board[square] = square < WHITE_START ? EMPTY : WHITE_MAN;
            }
        }
    }

    private int countOthers(int code, int exceptSquare) {
        int colour = colourOf(code);
        int count = 0;
        for (int square = 0; square < SQUARES; square++) {
            if (square != exceptSquare && colourOf(board[square]) == colour) {
                count++;
            }
        }
        return count;
    }

    private boolean isListed(int index) {
        return index >= 0 && index < moveTotals[GAME];
    }

    /** A position that was set, not played, has no past: counter and log start anew. */
    private void forgetHistory() {
        counters[GAME] = 0;
        logTotal = 0;
    }

    private void refreshGame() {
        listMoves(GAME);
        if (moveTotals[GAME] == 0) {
            gameStatus = sides[GAME] == BLACK ? WHITE_WINS : BLACK_WINS;
        } else if (counters[GAME] >= drawLimit) {
            gameStatus = DRAW;
            moveTotals[GAME] = 0;
        } else {
            gameStatus = ONGOING;
        }
    }

    private int describeMove(int index) {
        int start = index * PATH_SQUARES;
        int from = moveSquares[start];
        int to = moveSquares[start + moveLengths[index] - 1];
        int crowned = isCrowningSquare(board[from], to) ? 1 : 0;
        int captures = countCaptures(index);
        return from + LOG_TO * to + LOG_CAPTURE * captures + LOG_CROWNED * crowned;
    }

    private void appendToLog(int entry) {
        if (logTotal == LOG_SIZE) {
            for (int i = 1; i < LOG_SIZE; i++) {
                log[i - 1] = log[i];
            }
            logTotal--;
        }
        log[logTotal] = entry;
        logTotal++;
    }

    // ---- Listing the moves of a level ----

    private void listMoves(int level) {
        moveTotals[level] = 0;
        for (int from = 0; from < SQUARES; from++) {
            if (colourOf(board[level * SQUARES + from]) == sides[level]) {
                listCapturesFrom(level, from);
            }
        }
        if (moveTotals[level] > 0) {
            return;
        }
        for (int from = 0; from < SQUARES; from++) {
            if (colourOf(board[level * SQUARES + from]) == sides[level]) {
                listSimpleMovesFrom(level, from);
            }
        }
    }

    private void listSimpleMovesFrom(int level, int from) {
        int piece = board[level * SQUARES + from];
        int end = directionEnd(piece);
        path[0] = from;
        for (int direction = firstDirection(piece); direction < end; direction++) {
            int to = neighbours[from * DIRECTIONS + direction];
            if (to != NOTHING && board[level * SQUARES + to] == EMPTY) {
                path[1] = to;
                keepPath(level, 2);
            }
        }
    }

    /** Walks all jump paths of the piece depth first; a path that can't go on is a move. */
    private void listCapturesFrom(int level, int from) {
        int piece = board[level * SQUARES + from];
        path[0] = from;
        nextDirection[0] = firstDirection(piece);
        // The first square alone is no move, so it never counts as a path that ended.
        wentOn[0] = true;
        int last = 0;
        for (int step = 0; step < STEP_BOUND && last >= 0; step++) {
            int direction = findJump(level, piece, last);
            if (direction != NOTHING) {
                jump(piece, last, direction);
                last++;
            } else {
                if (!wentOn[last]) {
                    keepPath(level, last + 1);
                }
                last--;
            }
        }
    }

    /** Answers the first untried direction in which the path can go on, or NOTHING. */
    private int findJump(int level, int piece, int last) {
        int base = level * SQUARES;
        int foe = colourOf(piece) == BLACK ? WHITE : BLACK;
        int end = directionEnd(piece);
        for (int direction = nextDirection[last]; direction < end; direction++) {
            int over = neighbours[path[last] * DIRECTIONS + direction];
            if (over == NOTHING || colourOf(board[base + over]) != foe) {
                continue;
            }
            int to = neighbours[over * DIRECTIONS + direction];
            // The moving piece has left its first square, though the board still shows it there.
            boolean free = to != NOTHING && (board[base + to] == EMPTY || to == path[0]);
            if (free && !isJumped(over, last)) {
                return direction;
            }
        }
        return NOTHING;
    }

    private boolean isJumped(int square, int last) {
        for (int k = 1; k <= last; k++) {
            if (jumped[k] == square) {
                return true;
            }
        }
        return false;
    }

    private void jump(int piece, int last, int direction) {
        int over = neighbours[path[last] * DIRECTIONS + direction];
        int to = neighbours[over * DIRECTIONS + direction];
        nextDirection[last] = direction + 1;
        wentOn[last] = true;
        jumped[last + 1] = over;
        path[last + 1] = to;
        wentOn[last + 1] = false;
        // A man that reaches its crowning row stops there: no direction is left to try.
        nextDirection[last + 1] = isCrowningSquare(piece, to) ? DIRECTIONS : firstDirection(piece);
    }

    private void keepPath(int level, int length) {
        if (moveTotals[level] >= MAX_MOVES) {
            return;
        }
        int slot = level * MAX_MOVES + moveTotals[level];
        moveLengths[slot] = length;
        for (int k = 0; k < length; k++) {
            moveSquares[slot * PATH_SQUARES + k] = path[k];
        }
        moveTotals[level]++;
    }

    // ---- Applying a move ----

    /** Counts the pieces that the move of this slot takes: a jump alone crosses two rows. */
    private int countCaptures(int slot) {
        int start = slot * PATH_SQUARES;
        int rows = rowOf(moveSquares[start + 1]) - rowOf(moveSquares[start]);
        return rows == 2 || rows == -2 ? moveLengths[slot] - 1 : 0;
    }

    /** Sets the target level to the position after the move; it may be the same level. */
    private void applyMove(int level, int index, int target) {
        int slot = level * MAX_MOVES + index;
        int start = slot * PATH_SQUARES;
        int from = moveSquares[start];
        int to = moveSquares[start + moveLengths[slot] - 1];
        int captures = countCaptures(slot);
        int piece = board[level * SQUARES + from];
        copyBoard(level, target);
        board[target * SQUARES + from] = EMPTY;
        for (int k = 0; k < captures; k++) {
            int taken = squareBetween(moveSquares[start + k], moveSquares[start + k + 1]);
            board[target * SQUARES + taken] = EMPTY;
        }
        board[target * SQUARES + to] = isCrowningSquare(piece, to) ? piece + 1 : piece;
        counters[target] = captures > 0 || isMan(piece) ? 0 : counters[level] + 1;
        sides[target] = sides[level] == BLACK ? WHITE : BLACK;
    }

    private void copyBoard(int level, int target) {
        for (int square = 0; square < SQUARES; square++) {
            board[target * SQUARES + square] = board[level * SQUARES + square];
        }
    }

    // ---- The search ----

    /** Leaves the value of the game's position and its first best move at level GAME. */
    private void walkTree(int plies) {
        int level = GAME;
        openLevel(GAME);
        for (int step = 0; step < STEP_BOUND && level >= GAME; step++) {
            if (nextMove[level] < moveTotals[level]) {
                applyMove(level, nextMove[level], level + 1);
                level++;
                listMoves(level);
                openLevel(level);
                if (isLeaf(level, plies)) {
                    bestValue[level] = leafValue(level);
                    nextMove[level] = moveTotals[level];
                }
            } else {
                level--;
                if (level >= GAME) {
                    takeReply(level, -bestValue[level + 1]);
                }
            }
        }
    }

    private void openLevel(int level) {
        nextMove[level] = 0;
        bestValue[level] = BELOW_ALL_VALUES;
    }

    /** Only a better value displaces the move held, so the first of equal moves stays. */
    private void takeReply(int level, int value) {
        if (value > bestValue[level]) {
            bestValue[level] = value;
            bestMove[level] = nextMove[level];
        }
        nextMove[level]++;
    }

    private boolean isLeaf(int level, int plies) {
        return level == plies || moveTotals[level] == 0 || counters[level] >= drawLimit;
    }

    private int leafValue(int level) {
        if (moveTotals[level] == 0) {
            return LOSS + level;
        }
        return counters[level] >= drawLimit ? 0 : evaluate(level);
    }

    private int evaluate(int level) {
        int sum = 0;
        for (int square = 0; square < SQUARES; square++) {
            int piece = board[level * SQUARES + square];
            int worth = worthOf(piece, square);
            sum += colourOf(piece) == sides[level] ? worth : -worth;
        }
        return sum;
    }

    private static int worthOf(int piece, int square) {
        if (piece == BLACK_MAN) {
            return MAN_WORTH + ADVANCE_WORTH * rowOf(square);
        }
        if (piece == WHITE_MAN) {
            return MAN_WORTH + ADVANCE_WORTH * (ROWS - 1 - rowOf(square));
        }
        return piece == EMPTY ? 0 : KING_WORTH;
    }
}
