/** Shortest solutions of a sliding puzzle of two rows and three columns. */
public final class SlidingTileIda {
    public static final int BAD = -1;
    public static final int NONE = -2;

    private static final int CELLS = 6;
    private static final int COLUMNS = 3;
    private static final int MOVES = 4;
    private static final int UP = 0;
    private static final int DOWN = 1;
    private static final int LEFT = 2;
    private static final int RIGHT = 3;

    /** Every way to lay six different things into six cells: 6! */
    private static final int BOARDS = 720;

    /** A board is one number, three bits to a cell, so that a trial move needs no array. */
    private static final int BITS = 3;
    private static final int TILE_MASK = 7;
    private static final int FIRST_BOARD =
        1 | 2 << BITS | 3 << (2 * BITS) | 4 << (3 * BITS) | 5 << (4 * BITS);

    private int start;
    private int goal;

    // What is known of each board, by its rank, on its way to the present GOAL. These depend
    // on the GOAL alone, so they are made anew when it changes and stay true when the START does.
    private final int[] distances = new int[BOARDS];
    private final int[] solutions = new int[BOARDS];
    private final int[] goodSets = new int[BOARDS];

    private final int[] queue = new int[BOARDS];
    private int queued;

    public SlidingTileIda() {
        start = FIRST_BOARD;
        goal = FIRST_BOARD;
        measureFromGoal();
    }

    public boolean exchange(boolean goal, int x, int y) {
        if (!isCell(x) || !isCell(y)) {
            return false;
        }
        if (goal) {
            this.goal = exchanged(this.goal, x, y);
            measureFromGoal();
        } else {
            start = exchanged(start, x, y);
        }
        return true;
    }

    public int move(int move) {
        if (move < 0 || move >= MOVES) {
            return BAD;
        }
        int gap = gapOf(start);
        int to = gapAfter(gap, move);
        if (to != NONE) {
            start = exchanged(start, gap, to);
        }
        return to;
    }

    public int cell(boolean goal, int x) {
        if (!isCell(x)) {
            return BAD;
        }
        return goal ? tileAt(this.goal, x) : tileAt(start, x);
    }

    public boolean solvable() {
        return distances[rankOf(start)] != NONE;
    }

    public int distance() {
        return distances[rankOf(start)];
    }

    public int bestSolutions() {
        return solutions[rankOf(start)];
    }

    public int hint(int k) {
        if (k < 0 || k >= distances[rankOf(start)]) {
            return NONE;
        }
        int board = start;
        for (int made = 0; made < k; made++) {
            int first = firstGoodMove(board);
            board = moved(board, first);
        }
        return firstGoodMove(board);
    }

    public int goodMoves() {
        return goodSets[rankOf(start)];
    }

    public int step() {
        int first = firstGoodMove(start);
        if (first != NONE) {
            start = moved(start, first);
        }
        return first;
    }

    public void swapBoards() {
        int oldStart = start;
        start = goal;
        goal = oldStart;
        measureFromGoal();
    }

    /** Breadth first from the GOAL: every move can be taken back, so the ways are as long both ways. */
    private void measureFromGoal() {
        for (int rank = 0; rank < BOARDS; rank++) {
            distances[rank] = NONE;
            solutions[rank] = 0;
            goodSets[rank] = 0;
        }
        int goalRank = rankOf(goal);
        distances[goalRank] = 0;
        solutions[goalRank] = 1;
        queue[0] = goal;
        queued = 1;
        for (int head = 0; head < BOARDS && head < queued; head++) {
            spreadFrom(queue[head]);
        }
    }

    private void spreadFrom(int board) {
        int rank = rankOf(board);
        int gap = gapOf(board);
        for (int move = 0; move < MOVES; move++) {
            int to = gapAfter(gap, move);
            if (to != NONE) {
                int next = exchanged(board, gap, to);
                int nextRank = rankOf(next);
                enqueueIfNew(next, nextRank, distances[rank] + 1);
                addWay(nextRank, rank, move);
            }
        }
    }

    private void enqueueIfNew(int board, int rank, int distance) {
        if (distances[rank] == NONE && queued < BOARDS) {
            distances[rank] = distance;
            queue[queued] = board;
            queued++;
        }
    }

    /** Counts the way back over a move, if that is a move towards the GOAL. */
    private void addWay(int rank, int nearerRank, int move) {
        if (distances[rank] == distances[nearerRank] + 1) {
            solutions[rank] += solutions[nearerRank];
            goodSets[rank] |= 1 << opposite(move);
        }
    }

    private int firstGoodMove(int board) {
        int good = goodSets[rankOf(board)];
        for (int move = 0; move < MOVES; move++) {
            if ((good >> move & 1) != 0) {
                return move;
            }
        }
        return NONE;
    }

    /** The board after a move; the same board if the move is not possible. */
    private static int moved(int board, int move) {
        int gap = gapOf(board);
        int to = gapAfter(gap, move);
        return to == NONE ? board : exchanged(board, gap, to);
    }

    private static int gapAfter(int gap, int move) {
        int column = gap % COLUMNS;
        if (move == UP && gap >= COLUMNS) {
            return gap - COLUMNS;
        }
        if (move == DOWN && gap < COLUMNS) {
            return gap + COLUMNS;
        }
        if (move == LEFT && column > 0) {
            return gap - 1;
        }
        if (move == RIGHT && column < COLUMNS - 1) {
            return gap + 1;
        }
        return NONE;
    }

    private static int opposite(int move) {
        switch (move) {
            case UP:
                return DOWN;
            case DOWN:
                return UP;
            case LEFT:
                return RIGHT;
            default:
                return LEFT;
        }
    }

    private static boolean isCell(int x) {
        return x >= 0 && x < CELLS;
    }

    private static int tileAt(int board, int x) {
        return board >> (BITS * x) & TILE_MASK;
    }

    private static int gapOf(int board) {
        int gap = 0;
        for (int x = 1; x < CELLS; x++) {
            if (tileAt(board, x) == 0) {
                gap = x;
            }
        }
        return gap;
    }

    private static int exchanged(int board, int x, int y) {
        int difference = tileAt(board, x) ^ tileAt(board, y);
        return board ^ difference << (BITS * x) ^ difference << (BITS * y);
    }

    /** The board's place, 0 to 719, among all boards: each cell is a digit, how many later ones hold less. */
    private static int rankOf(int board) {
        int rank = 0;
        for (int x = 0; x < CELLS; x++) {
            int smaller = 0;
            for (int later = x + 1; later < CELLS; later++) {
                if (tileAt(board, later) < tileAt(board, x)) {
                    smaller++;
                }
            }
            rank = rank * (CELLS - x) + smaller;
        }
        return rank;
    }
}
