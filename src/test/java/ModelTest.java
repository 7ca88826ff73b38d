import java.util.ArrayList;
import java.util.Arrays;
import java.util.List;

/**
 * Compares the class with a plain model of the document that finds its answers another way: it lists every
 * solution of length 0, 1, 2, ... from the START and tells by parity whether there is one at all.
 */
public final class ModelTest {
    private static final int NONE = -2;
    private static final int FARTHEST = 21;

    private static int wrong = 0;

    private static void due(String when, String call, long got, long want) {
        if (got != want) {
            wrong++;
            if (wrong <= 50) {
                System.out.println(when + ": " + call + " answered " + got + ", due is " + want);
            }
        }
    }

    public static void main(String[] args) {
        everyStartToSomeGoals();
        boardsAtEachDistance();
        longRuns();
        System.out.println(wrong == 0 ? "all answers are as due" : wrong + " answers are not as due");
        if (wrong != 0) {
            System.exit(1);
        }
    }

    // ---- the model

    private static int[] board(String text) {
        return text.chars().map(c -> c - '0').toArray();
    }

    private static int gap(int[] board) {
        int x = 0;
        while (board[x] != 0) {
            x++;
        }
        return x;
    }

    /** The board after the move, or null if the gap would leave the board. */
    private static int[] after(int[] board, int move) {
        int gap = gap(board);
        int row = gap / 3 + (move == 0 ? -1 : move == 1 ? 1 : 0);
        int column = gap % 3 + (move == 2 ? -1 : move == 3 ? 1 : 0);
        if (row < 0 || row > 1 || column < 0 || column > 2) {
            return null;
        }
        return exchanged(board, gap, row * 3 + column);
    }

    private static int[] exchanged(int[] board, int x, int y) {
        int[] next = board.clone();
        next[x] = board[y];
        next[y] = board[x];
        return next;
    }

    /** A move is one exchange and takes the gap to a cell of the other colour of a chessboard. */
    private static boolean solvable(int[] start, int[] goal) {
        int[] board = start.clone();
        int exchanges = 0;
        for (int x = 0; x < 6; x++) {
            for (int y = x + 1; y < 6; y++) {
                if (board[x] != goal[x] && board[y] == goal[x]) {
                    board = exchanged(board, x, y);
                    exchanges++;
                }
            }
        }
        int from = gap(start);
        int to = gap(goal);
        return (exchanges + from / 3 + from % 3 + to / 3 + to % 3) % 2 == 0;
    }

    /** All best solutions, first one first; none if there is no solution. */
    private static List<int[]> best(int[] start, int[] goal) {
        List<int[]> found = new ArrayList<>();
        if (solvable(start, goal)) {
            for (int length = 0; found.isEmpty(); length++) {
                if (length > FARTHEST) {
                    throw new IllegalStateException("the model is wrong");
                }
                list(start, goal, new int[length], 0, found);
            }
        }
        return found;
    }

    private static void list(int[] board, int[] goal, int[] moves, int made, List<int[]> found) {
        if (made == moves.length) {
            if (Arrays.equals(board, goal)) {
                found.add(moves.clone());
            }
            return;
        }
        for (int move = 0; move < 4; move++) {
            boolean takesBack = made > 0 && (moves[made - 1] ^ 1) == move;
            int[] next = takesBack ? null : after(board, move);
            if (next != null) {
                moves[made] = move;
                list(next, goal, moves, made + 1, found);
            }
        }
    }

    private static int firstMoves(List<int[]> solutions) {
        int set = 0;
        for (int[] solution : solutions) {
            set |= solution.length == 0 ? 0 : 1 << solution[0];
        }
        return set;
    }

    // ---- the comparisons

    private static void dueAnswers(String when, SlidingTileIda puzzle, int[] start, int[] goal) {
        List<int[]> best = best(start, goal);
        int distance = best.isEmpty() ? NONE : best.get(0).length;
        due(when, "solvable()", puzzle.solvable() ? 1 : 0, best.isEmpty() ? 0 : 1);
        due(when, "distance()", puzzle.distance(), distance);
        due(when, "bestSolutions()", puzzle.bestSolutions(), best.size());
        due(when, "goodMoves()", puzzle.goodMoves(), firstMoves(best));
        for (int k = -1; k <= FARTHEST + 1; k++) {
            int move = k >= 0 && k < distance ? best.get(0)[k] : NONE;
            due(when, "hint(" + k + ")", puzzle.hint(k), move);
        }
    }

    private static void dueBoards(String when, SlidingTileIda puzzle, int[] start, int[] goal) {
        for (int x = 0; x < 6; x++) {
            due(when, "cell(false, " + x + ")", puzzle.cell(false, x), start[x]);
            due(when, "cell(true, " + x + ")", puzzle.cell(true, x), goal[x]);
        }
    }

    private static void lay(SlidingTileIda puzzle, boolean goal, int[] board) {
        for (int x = 0; x < 6; x++) {
            int y = x;
            while (y < 5 && puzzle.cell(goal, y) != board[x]) {
                y++;
            }
            puzzle.exchange(goal, x, y);
        }
    }

    private static List<int[]> allBoards() {
        List<int[]> boards = new ArrayList<>();
        for (int number = 0; number < 46656; number++) {
            int[] board = new int[6];
            int rest = number;
            for (int x = 5; x >= 0; x--) {
                board[x] = rest % 6;
                rest /= 6;
            }
            if (Arrays.stream(board).distinct().count() == 6) {
                boards.add(board);
            }
        }
        return boards;
    }

    private static void everyStartToSomeGoals() {
        List<int[]> boards = allBoards();
        due("the model", "number of boards", boards.size(), 720);
        String[] goals = {"123450", "123405", "543021", "350142", "204513", "012345"};
        for (String goal : goals) {
            for (int[] start : boards) {
                String when = Arrays.toString(start) + " to " + goal;
                SlidingTileIda puzzle = new SlidingTileIda();
                lay(puzzle, false, start);
                lay(puzzle, true, board(goal));
                dueBoards(when, puzzle, start, board(goal));
                dueAnswers(when, puzzle, start, board(goal));
            }
        }
    }

    /** How many boards are 0, 1, ... 21 moves from the first board is well known. */
    private static void boardsAtEachDistance() {
        int[] known = {1, 2, 3, 5, 6, 7, 10, 12, 12, 16, 23, 25, 28, 39, 44, 40, 29, 21, 18, 12, 6, 1};
        int[] seen = new int[known.length];
        int unsolvable = 0;
        for (int[] start : allBoards()) {
            SlidingTileIda puzzle = new SlidingTileIda();
            lay(puzzle, false, start);
            int distance = puzzle.distance();
            if (distance >= 0 && distance < seen.length) {
                seen[distance]++;
            } else if (distance == NONE) {
                unsolvable++;
            }
        }
        due("all boards", "without a solution", unsolvable, 360);
        for (int distance = 0; distance < known.length; distance++) {
            due("all boards", "at distance " + distance, seen[distance], known[distance]);
        }
    }

    /** Objects used for the 512 calls that the document allows, with calls of every kind mixed. */
    private static void longRuns() {
        for (int run = 0; run < 60; run++) {
            longRun(run, new java.util.Random(1000 + run));
        }
    }

    private static void longRun(int run, java.util.Random random) {
        SlidingTileIda puzzle = new SlidingTileIda();
        int[] start = board("123450");
        int[] goal = board("123450");
        for (int call = 1; call <= 512; call++) {
            String when = "run " + run + ", call " + call;
            int kind = random.nextInt(13);
            int x = random.nextInt(8) - 1;
            int y = random.nextInt(8) - 1;
            boolean inside = x >= 0 && x < 6 && y >= 0 && y < 6;
            if (kind == 0) {
                due(when, "exchange(false, " + x + ", " + y + ")", puzzle.exchange(false, x, y) ? 1 : 0, inside ? 1 : 0);
                start = inside ? exchanged(start, x, y) : start;
            } else if (kind == 1) {
                due(when, "exchange(true, " + x + ", " + y + ")", puzzle.exchange(true, x, y) ? 1 : 0, inside ? 1 : 0);
                goal = inside ? exchanged(goal, x, y) : goal;
            } else if (kind == 2) {
                puzzle.swapBoards();
                int[] oldStart = start;
                start = goal;
                goal = oldStart;
            } else if (kind <= 4) {
                int move = x - 1;
                int[] next = move < 0 || move > 3 ? null : after(start, move);
                int want = move < 0 || move > 3 ? -1 : next == null ? NONE : gap(next);
                due(when, "move(" + move + ")", puzzle.move(move), want);
                start = next == null ? start : next;
            } else if (kind <= 6) {
                List<int[]> best = best(start, goal);
                int want = best.isEmpty() || best.get(0).length == 0 ? NONE : best.get(0)[0];
                due(when, "step()", puzzle.step(), want);
                start = want == NONE ? start : after(start, want);
            } else {
                oneQuestion(when, puzzle, start, goal, kind, random);
            }
        }
    }

    private static void oneQuestion(
            String when, SlidingTileIda puzzle, int[] start, int[] goal, int kind, java.util.Random random) {
        List<int[]> best = best(start, goal);
        int distance = best.isEmpty() ? NONE : best.get(0).length;
        if (kind == 7) {
            int x = random.nextInt(8) - 1;
            boolean ofGoal = random.nextBoolean();
            int want = x < 0 || x > 5 ? -1 : ofGoal ? goal[x] : start[x];
            due(when, "cell(" + ofGoal + ", " + x + ")", puzzle.cell(ofGoal, x), want);
        } else if (kind == 8) {
            due(when, "solvable()", puzzle.solvable() ? 1 : 0, best.isEmpty() ? 0 : 1);
        } else if (kind == 9) {
            due(when, "distance()", puzzle.distance(), distance);
        } else if (kind == 10) {
            due(when, "bestSolutions()", puzzle.bestSolutions(), best.size());
        } else if (kind == 11) {
            due(when, "goodMoves()", puzzle.goodMoves(), firstMoves(best));
        } else {
            int k = random.nextInt(24) - 1;
            int want = k >= 0 && k < distance ? best.get(0)[k] : NONE;
            due(when, "hint(" + k + ")", puzzle.hint(k), want);
        }
    }
}
