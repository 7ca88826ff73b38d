import java.util.ArrayList;
import java.util.HashMap;
import java.util.HashSet;
import java.util.List;
import java.util.Map;
import java.util.Set;

/**
 * Promises 5 to 9 for every START and every GOAL, 720 times 720. No search for shortest solutions is made here: the
 * answers of boards that are one move apart must fit together, and from the GOAL on, where they are plain, only one set
 * of answers does.
 */
public final class AllPairsTest {
    private static final int NONE = -2;
    private static final int CALLS = 512;
    private static final int FARTHEST = 21;

    /** Laying a START takes 5 exchanges at most, asking about it 4 calls and the hints, one beyond the last among them. */
    private static final int MOST_CALLS_OF_A_START = 5 + 4 + FARTHEST + 1;

    private static final String FIRST = "123450";

    private record Answers(boolean solvable, int distance, int bestSolutions, int goodMoves, String hints) {
    }

    private static int wrong = 0;

    private static SlidingTileIda puzzle;
    private static String start;
    private static int calls;

    public static void main(String[] args) {
        List<String> boards = allBoards();
        Map<String, Set<String>> withinReach = new HashMap<>();
        withinReach.put(FIRST, reachedFrom(FIRST));
        withinReach.put("213450", reachedFrom("213450"));
        due("the test", "boards", boards.size(), 720);
        due("the test", "boards within reach of the first", withinReach.get(FIRST).size(), 360);
        for (String goal : boards) {
            Set<String> solvable = withinReach.get(withinReach.get(FIRST).contains(goal) ? FIRST : "213450");
            Map<String, Answers> answers = ask(goal, boards);
            for (String board : boards) {
                dueFit(board, goal, answers, solvable.contains(board));
            }
        }
        System.out.println(wrong == 0 ? "all answers are as due" : wrong + " answers are not as due");
        if (wrong != 0) {
            System.exit(1);
        }
    }

    // ---- Asking

    private static Map<String, Answers> ask(String goal, List<String> boards) {
        Map<String, Answers> answers = new HashMap<>();
        makeNew(goal);
        for (String board : boards) {
            if (calls + MOST_CALLS_OF_A_START > CALLS) {
                makeNew(goal);
            }
            layStart(board);
            answers.put(board, answersOf());
        }
        return answers;
    }

    private static void makeNew(String goal) {
        puzzle = new SlidingTileIda();
        start = FIRST;
        calls = 0;
        layStart(goal);
        puzzle.swapBoards();
        start = FIRST;
        calls++;
    }

    private static void layStart(String board) {
        for (int x = 0; x < 6; x++) {
            int y = start.indexOf(board.charAt(x));
            if (y != x) {
                puzzle.exchange(false, x, y);
                start = exchanged(start, x, y);
                calls++;
            }
        }
    }

    private static Answers answersOf() {
        StringBuilder hints = new StringBuilder();
        int hint = puzzle.hint(0);
        calls++;
        while (hint != NONE && hints.length() < FARTHEST) {
            hints.append(hint);
            hint = puzzle.hint(hints.length());
            calls++;
        }
        calls += 4;
        return new Answers(
            puzzle.solvable(), puzzle.distance(), puzzle.bestSolutions(), puzzle.goodMoves(), hints.toString());
    }

    // ---- What is due

    private static void dueFit(String board, String goal, Map<String, Answers> answers, boolean solvable) {
        Answers due;
        if (!solvable) {
            due = new Answers(false, NONE, 0, 0, "");
        } else if (board.equals(goal)) {
            due = new Answers(true, 0, 1, 0, "");
        } else {
            due = oneMoreThanTheNearest(board, answers);
        }
        due(board + " to " + goal, "the answers", answers.get(board), due);
    }

    private static Answers oneMoreThanTheNearest(String board, Map<String, Answers> answers) {
        int nearest = FARTHEST;
        for (int move = 0; move < 4; move++) {
            String next = after(board, move);
            if (next != null) {
                nearest = Math.min(nearest, answers.get(next).distance());
            }
        }
        int bestSolutions = 0;
        int goodMoves = 0;
        String hints = "";
        for (int move = 3; move >= 0; move--) {
            String next = after(board, move);
            if (next != null && answers.get(next).distance() == nearest) {
                bestSolutions += answers.get(next).bestSolutions();
                goodMoves += 1 << move;
                hints = move + answers.get(next).hints();
            }
        }
        return new Answers(true, nearest + 1, bestSolutions, goodMoves, hints);
    }

    private static void due(String when, String what, Object got, Object want) {
        if (!got.equals(want)) {
            wrong++;
            if (wrong <= 50) {
                System.out.println(when + ": " + what + " " + got + ", due is " + want);
            }
        }
    }

    // ---- Boards

    /** The board after the move, or null if the gap would leave the board. */
    private static String after(String board, int move) {
        int gap = board.indexOf('0');
        int[][] to = {{-1, -1, -1, 0, 1, 2}, {3, 4, 5, -1, -1, -1}, {-1, 0, 1, -1, 3, 4}, {1, 2, -1, 4, 5, -1}};
        return to[move][gap] < 0 ? null : exchanged(board, gap, to[move][gap]);
    }

    private static String exchanged(String board, int x, int y) {
        char[] cells = board.toCharArray();
        cells[x] = board.charAt(y);
        cells[y] = board.charAt(x);
        return new String(cells);
    }

    private static Set<String> reachedFrom(String first) {
        Set<String> reached = new HashSet<>(Set.of(first));
        List<String> open = new ArrayList<>(List.of(first));
        while (!open.isEmpty()) {
            String board = open.remove(open.size() - 1);
            for (int move = 0; move < 4; move++) {
                String next = after(board, move);
                if (next != null && reached.add(next)) {
                    open.add(next);
                }
            }
        }
        return reached;
    }

    private static List<String> allBoards() {
        List<String> boards = new ArrayList<>(List.of("0"));
        for (char tile = '1'; tile <= '5'; tile++) {
            List<String> longer = new ArrayList<>();
            for (String board : boards) {
                for (int x = 0; x <= board.length(); x++) {
                    longer.add(board.substring(0, x) + tile + board.substring(x));
                }
            }
            boards = longer;
        }
        return boards;
    }
}
