import java.util.ArrayList;
import java.util.Comparator;
import java.util.List;

/**
 * The document's definitions written down once more, over rows and columns, with recursion
 * and a real sort, so that it shares no way of working with the class it is held against.
 */
final class Reference {
    static final int[][] STEPS = {{1, 1}, {1, -1}, {-1, 1}, {-1, -1}};

    final int drawLimit;
    int[] cells = new int[32];
    int side = 0;
    int counter = 0;
    int value = 0;
    List<Integer> log = new ArrayList<>();

    Reference(int drawLimit) {
        this.drawLimit = Math.max(4, Math.min(80, drawLimit));
        reset(false);
    }

    void reset(boolean empty) {
        for (int s = 0; s < 32; s++) {
            cells[s] = empty || (s >= 12 && s < 20) ? 0 : s < 12 ? 1 : 3;
        }
        side = 0;
        forget();
    }

    boolean place(int square, int code) {
        if (square < 0 || square > 31 || code < 0 || code > 4) {
            return false;
        }
        if ((code == 1 && square >= 28) || (code == 3 && square <= 3)) {
            return false;
        }
        int others = 0;
        for (int s = 0; s < 32; s++) {
            if (s != square && code != 0 && colour(cells[s]) == colour(code)) {
                others++;
            }
        }
        if (others > 11) {
            return false;
        }
        cells[square] = code;
        forget();
        return true;
    }

    boolean setSideToMove(int newSide) {
        if (newSide != 0 && newSide != 1) {
            return false;
        }
        side = newSide;
        forget();
        return true;
    }

    int status() {
        if (legalMoves().isEmpty()) {
            return side == 0 ? 2 : 1;
        }
        return counter >= drawLimit ? 3 : 0;
    }

    List<List<Integer>> moveList() {
        return status() == 0 ? firstMoves() : new ArrayList<>();
    }

    boolean play(int index) {
        List<List<Integer>> moves = moveList();
        if (index < 0 || index >= moves.size()) {
            return false;
        }
        List<Integer> move = moves.get(index);
        int from = move.get(0);
        int to = move.get(move.size() - 1);
        Reference after = after(move);
        int taken = count(cells) - count(after.cells);
        int crowned = cells[from] != after.cells[to] ? 1 : 0;
        cells = after.cells;
        side = after.side;
        counter = after.counter;
        log.add(from + 32 * to + 1024 * taken + 16384 * crowned);
        if (log.size() > 64) {
            log.remove(0);
        }
        return true;
    }

    int search(int depth) {
        List<List<Integer>> moves = moveList();
        if (moves.isEmpty()) {
            return -1;
        }
        int plies = Math.max(1, Math.min(3, depth));
        int best = -1;
        for (int i = 0; i < moves.size(); i++) {
            int v = -after(moves.get(i)).valueOf(plies - 1, 1);
            if (best < 0 || v > value) {
                best = i;
                value = v;
            }
        }
        return best;
    }

    private int valueOf(int depth, int ply) {
        if (legalMoves().isEmpty()) {
            return -10000 + ply;
        }
        if (counter >= drawLimit) {
            return 0;
        }
        if (depth == 0) {
            return worth(side) - worth(1 - side);
        }
        int best = Integer.MIN_VALUE;
        for (List<Integer> move : firstMoves()) {
            best = Math.max(best, -after(move).valueOf(depth - 1, ply + 1));
        }
        return best;
    }

    private int worth(int ofSide) {
        int sum = 0;
        for (int s = 0; s < 32; s++) {
            if (colour(cells[s]) == ofSide) {
                sum += cells[s] % 2 == 0 ? 250 : 100 + 4 * (ofSide == 0 ? s / 4 : 7 - s / 4);
            }
        }
        return sum;
    }

    private void forget() {
        counter = 0;
        log.clear();
    }

    private Reference after(List<Integer> move) {
        Reference next = new Reference(drawLimit);
        int from = move.get(0);
        int to = move.get(move.size() - 1);
        int piece = cells[from];
        boolean captured = false;
        next.cells = cells.clone();
        next.cells[from] = 0;
        for (int k = 1; k < move.size(); k++) {
            int a = move.get(k - 1);
            int b = move.get(k);
            if (Math.abs(a / 4 - b / 4) == 2) {
                next.cells[number((a / 4 + b / 4) / 2, (column(a) + column(b)) / 2)] = 0;
                captured = true;
            }
        }
        next.cells[to] = crowns(piece, to) ? piece + 1 : piece;
        next.side = 1 - side;
        next.counter = captured || piece % 2 == 1 ? 0 : counter + 1;
        return next;
    }

    private List<List<Integer>> firstMoves() {
        List<List<Integer>> moves = legalMoves();
        return new ArrayList<>(moves.subList(0, Math.min(48, moves.size())));
    }

    /** All legal moves in order, without the cut. */
    List<List<Integer>> legalMoves() {
        List<List<Integer>> simple = new ArrayList<>();
        List<List<Integer>> captures = new ArrayList<>();
        for (int s = 0; s < 32; s++) {
            if (colour(cells[s]) == side) {
                addSimple(s, simple);
                addCaptures(List.of(s), List.of(), cells[s], captures);
            }
        }
        List<List<Integer>> moves = captures.isEmpty() ? simple : captures;
        moves.sort(LEXICOGRAPHIC);
        return moves;
    }

    private void addSimple(int from, List<List<Integer>> moves) {
        for (int[] step : STEPS) {
            int to = number(from / 4 + step[0], column(from) + step[1]);
            if (allowed(cells[from], step) && to >= 0 && cells[to] == 0) {
                moves.add(List.of(from, to));
            }
        }
    }

    private void addCaptures(List<Integer> path, List<Integer> taken, int piece, List<List<Integer>> moves) {
        int at = path.get(path.size() - 1);
        boolean stopped = path.size() > 1 && crowns(piece, at);
        boolean further = false;
        for (int[] step : STEPS) {
            int over = number(at / 4 + step[0], column(at) + step[1]);
            int to = number(at / 4 + 2 * step[0], column(at) + 2 * step[1]);
            if (stopped || to < 0 || !allowed(piece, step) || taken.contains(over)) {
                continue;
            }
            boolean free = cells[to] == 0 || to == path.get(0);
            if (free && colour(cells[over]) == 1 - side) {
                further = true;
                addCaptures(plus(path, to), plus(taken, over), piece, moves);
            }
        }
        if (!further && path.size() > 1) {
            moves.add(path);
        }
    }

    private static final Comparator<List<Integer>> LEXICOGRAPHIC = (a, b) -> {
        for (int k = 0; k < Math.min(a.size(), b.size()); k++) {
            if (!a.get(k).equals(b.get(k))) {
                return a.get(k) - b.get(k);
            }
        }
        return a.size() - b.size();
    };

    private static List<Integer> plus(List<Integer> list, int last) {
        List<Integer> longer = new ArrayList<>(list);
        longer.add(last);
        return longer;
    }

    private static boolean allowed(int piece, int[] step) {
        return piece % 2 == 0 || step[0] == (piece == 1 ? 1 : -1);
    }

    private static boolean crowns(int piece, int square) {
        return (piece == 1 && square / 4 == 7) || (piece == 3 && square / 4 == 0);
    }

    private static int colour(int code) {
        return code == 0 ? -1 : code < 3 ? 0 : 1;
    }

    private static int column(int square) {
        return 2 * (square % 4) + (square / 4 % 2 == 0 ? 1 : 0);
    }

    private static int number(int row, int column) {
        return row < 0 || row > 7 || column < 0 || column > 7 ? -1 : row * 4 + column / 2;
    }

    private static int count(int[] cells) {
        int pieces = 0;
        for (int code : cells) {
            pieces += code == 0 ? 0 : 1;
        }
        return pieces;
    }
}
