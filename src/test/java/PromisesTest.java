/** Each promise of the document on single fixed answers. The boundary cases have their own tests, in BoundaryTest. */
public final class PromisesTest {
    private static final int BAD = -1;
    private static final int NONE = -2;

    private static int wrong = 0;

    private static void due(String call, Object got, Object want) {
        if (!got.equals(want)) {
            wrong++;
            System.out.println(call + " answered " + got + ", due is " + want);
        }
    }

    public static void main(String[] args) {
        constants();
        promise1NewObject();
        promise2Exchange();
        promise3Move();
        promise4Cell();
        promise5Solvable();
        promise6Distance();
        promise7BestSolutions();
        promise8Hint();
        promise9GoodMoves();
        promise10Step();
        promise11SwapBoards();
        objectsAreApart();
        System.out.println(wrong == 0 ? "all answers are as due" : wrong + " answers are not as due");
        if (wrong != 0) {
            System.exit(1);
        }
    }

    private static void constants() {
        due("BAD", SlidingTileIda.BAD, BAD);
        due("NONE", SlidingTileIda.NONE, NONE);
    }

    private static void promise1NewObject() {
        SlidingTileIda puzzle = new SlidingTileIda();
        dueBoards("new object", puzzle, "123450", "123450");
        due("new: solvable()", puzzle.solvable(), true);
        due("new: distance()", puzzle.distance(), 0);
        due("new: bestSolutions()", puzzle.bestSolutions(), 1);
        due("new: hint(0)", puzzle.hint(0), NONE);
        due("new: goodMoves()", puzzle.goodMoves(), 0);
        due("new: step()", puzzle.step(), NONE);
        dueBoards("new object after its step", puzzle, "123450", "123450");
    }

    private static void promise2Exchange() {
        SlidingTileIda puzzle = new SlidingTileIda();
        due("exchange(false, 0, 4)", puzzle.exchange(false, 0, 4), true);
        dueBoards("far tiles on the START", puzzle, "523410", "123450");
        due("exchange(true, 2, 5)", puzzle.exchange(true, 2, 5), true);
        dueBoards("the gap on the GOAL", puzzle, "523410", "120453");
        due("exchange(false, 5, 0)", puzzle.exchange(false, 5, 0), true);
        dueBoards("the gap to a far cell on the START", puzzle, "023415", "120453");
        for (int x = 0; x < 6; x++) {
            due("exchange(false, x, x)", puzzle.exchange(false, x, x), true);
            due("exchange(true, x, x)", puzzle.exchange(true, x, x), true);
            dueBoards("a cell with itself", puzzle, "023415", "120453");
        }
        for (int x = 0; x < 6; x++) {
            for (int y = 0; y < 6; y++) {
                exchangeOfOnePair(x, y);
            }
        }
    }

    private static void exchangeOfOnePair(int x, int y) {
        char[] after = "123450".toCharArray();
        char held = after[x];
        after[x] = after[y];
        after[y] = held;
        SlidingTileIda puzzle = new SlidingTileIda();
        due("exchange(false, " + x + ", " + y + ")", puzzle.exchange(false, x, y), true);
        dueBoards("START cells " + x + " " + y, puzzle, new String(after), "123450");
        due("exchange(true, " + x + ", " + y + ")", puzzle.exchange(true, x, y), true);
        dueBoards("GOAL cells " + x + " " + y, puzzle, new String(after), new String(after));
        due("both boards exchanged alike: distance()", puzzle.distance(), 0);
    }

    private static void promise3Move() {
        // From each cell of the gap, the cells to which up, down, left and right lead.
        int[][] to = {
            {NONE, 3, NONE, 1}, {NONE, 4, 0, 2}, {NONE, 5, 1, NONE},
            {0, NONE, NONE, 4}, {1, NONE, 3, 5}, {2, NONE, 4, NONE},
        };
        String[] boards = {"012345", "102345", "120345", "123045", "123405", "123450"};
        for (int gap = 0; gap < 6; gap++) {
            for (int move = 0; move < 4; move++) {
                SlidingTileIda puzzle = puzzle(boards[gap], "123450");
                due("move(" + move + ") on " + boards[gap], puzzle.move(move), to[gap][move]);
                char[] after = boards[gap].toCharArray();
                if (to[gap][move] != NONE) {
                    after[gap] = after[to[gap][move]];
                    after[to[gap][move]] = '0';
                }
                dueBoards("after move(" + move + ") on " + boards[gap], puzzle, new String(after), "123450");
            }
        }
    }

    private static void promise4Cell() {
        SlidingTileIda puzzle = puzzle("504132", "321054");
        int[] start = {5, 0, 4, 1, 3, 2};
        int[] goal = {3, 2, 1, 0, 5, 4};
        for (int x = 0; x < 6; x++) {
            due("cell(false, " + x + ")", puzzle.cell(false, x), start[x]);
            due("cell(true, " + x + ")", puzzle.cell(true, x), goal[x]);
        }
    }

    private static void promise5Solvable() {
        due("solvable() of equal boards", puzzle("504132", "504132").solvable(), true);
        due("solvable() one move away", puzzle("123405", "123450").solvable(), true);
        due("solvable() with two tiles exchanged", puzzle("123540", "123450").solvable(), false);
        due("solvable() with three tiles turned", puzzle("231450", "123450").solvable(), true);
        due("solvable() with the gap put two cells away", puzzle("120453", "123450").solvable(), true);
        due("solvable() with the gap put across", puzzle("103452", "123450").solvable(), false);
        due("solvable() to another GOAL", puzzle("123540", "123504").solvable(), true);
        SlidingTileIda puzzle = puzzle("123450", "213450");
        due("solvable() with two tiles of the GOAL exchanged", puzzle.solvable(), false);
        puzzle.exchange(false, 3, 4);
        due("solvable() with two tiles of both exchanged", puzzle.solvable(), true);
        puzzle.move(0);
        due("solvable() after a move", puzzle.solvable(), true);
    }

    private static void promise6Distance() {
        due("distance() of equal boards", puzzle("504132", "504132").distance(), 0);
        due("distance() one move away", puzzle("123405", "123450").distance(), 1);
        due("distance() of 412503", puzzle("412503", "123450").distance(), 5);
        due("distance() of 324150", puzzle("324150", "123450").distance(), 14);
        due("distance() of the farthest board", puzzle("450123", "123450").distance(), 21);
        due("distance() without a solution", puzzle("123540", "123450").distance(), NONE);
        due("distance() to another GOAL", puzzle("123450", "123045").distance(), 2);
        due("distance() from the GOAL of 412503", puzzle("123450", "412503").distance(), 5);
    }

    private static void promise7BestSolutions() {
        due("bestSolutions() of equal boards", puzzle("504132", "504132").bestSolutions(), 1);
        due("bestSolutions() one move away", puzzle("123405", "123450").bestSolutions(), 1);
        due("bestSolutions() without a solution", puzzle("123540", "123450").bestSolutions(), 0);
        due("bestSolutions() of 453120", puzzle("453120", "123450").bestSolutions(), 2);
        // Twelve moves about a square of two by two lead home, so six moves away both ways are as long.
        SlidingTileIda square = sixMovesAboutASquare();
        due("distance() about a square", square.distance(), 6);
        due("bestSolutions() about a square", square.bestSolutions(), 2);
    }

    private static SlidingTileIda sixMovesAboutASquare() {
        SlidingTileIda puzzle = new SlidingTileIda();
        for (int move : new int[] {0, 2, 1, 3, 0, 2}) {
            puzzle.move(move);
        }
        return puzzle;
    }

    private static void promise8Hint() {
        SlidingTileIda puzzle = puzzle("412503", "123450");
        // The gap goes left, up, right, right, down: the only best solution of 412503.
        due("distance() of 412503", puzzle.distance(), 5);
        due("hints of 412503", hints(puzzle), "20331");
        dueBoards("after its hints", puzzle, "412503", "123450");
        // The best solutions are 130213, on about the square, and 312031, back again.
        due("hints about a square", hints(sixMovesAboutASquare()), "130213");
    }

    private static void promise9GoodMoves() {
        due("goodMoves() of equal boards", puzzle("504132", "504132").goodMoves(), 0);
        due("goodMoves() without a solution", puzzle("123540", "123450").goodMoves(), 0);
        due("goodMoves() down", puzzle("120453", "123450").goodMoves(), 1 << 1);
        due("goodMoves() right", puzzle("123405", "123450").goodMoves(), 1 << 3);
        due("goodMoves() left", puzzle("123450", "123405").goodMoves(), 1 << 2);
        due("goodMoves() up", puzzle("123450", "120453").goodMoves(), 1 << 0);
        due("goodMoves() of 412503", puzzle("412503", "123450").goodMoves(), 1 << 2);
        due("goodMoves() about a square", sixMovesAboutASquare().goodMoves(), 1 << 1 | 1 << 3);
    }

    private static void promise10Step() {
        SlidingTileIda puzzle = puzzle("412503", "123450");
        String[] boards = {"412053", "012453", "102453", "120453", "123450"};
        int[] moves = {2, 0, 3, 3, 1};
        for (int made = 0; made < 5; made++) {
            due("step() " + made, puzzle.step(), moves[made]);
            dueBoards("after step() " + made, puzzle, boards[made], "123450");
            due("distance() after step() " + made, puzzle.distance(), 4 - made);
        }
        due("step() on equal boards", puzzle.step(), NONE);
        dueBoards("after step() on equal boards", puzzle, "123450", "123450");
        SlidingTileIda unsolvable = puzzle("123540", "123450");
        due("step() without a solution", unsolvable.step(), NONE);
        dueBoards("after step() without a solution", unsolvable, "123540", "123450");
    }

    private static void promise11SwapBoards() {
        SlidingTileIda puzzle = puzzle("412503", "123450");
        puzzle.swapBoards();
        dueBoards("after swapBoards()", puzzle, "123450", "412503");
        due("distance() after swapBoards()", puzzle.distance(), 5);
        due("hints after swapBoards()", hints(puzzle), "02213");
        puzzle.move(2);
        dueBoards("a move after swapBoards()", puzzle, "123405", "412503");
        puzzle.swapBoards();
        dueBoards("after a second swapBoards()", puzzle, "412503", "123405");
        due("exchange after swapBoards()", puzzle.exchange(true, 0, 1), true);
        dueBoards("exchange after swapBoards()", puzzle, "412503", "213405");
        due("solvable() after it", puzzle.solvable(), false);
    }

    private static void objectsAreApart() {
        SlidingTileIda one = new SlidingTileIda();
        SlidingTileIda other = new SlidingTileIda();
        one.move(0);
        one.exchange(true, 0, 1);
        dueBoards("an object whose neighbour was changed", other, "123450", "123450");
        due("its distance()", other.distance(), 0);
    }

    /** A puzzle whose boards are brought about with exchanges alone. */
    private static SlidingTileIda puzzle(String start, String goal) {
        SlidingTileIda puzzle = new SlidingTileIda();
        lay(puzzle, false, start);
        lay(puzzle, true, goal);
        return puzzle;
    }

    private static void lay(SlidingTileIda puzzle, boolean goal, String board) {
        char[] now = "123450".toCharArray();
        for (int x = 0; x < 6; x++) {
            int y = new String(now).indexOf(board.charAt(x));
            puzzle.exchange(goal, x, y);
            now[y] = now[x];
            now[x] = board.charAt(x);
        }
    }

    private static String hints(SlidingTileIda puzzle) {
        StringBuilder hints = new StringBuilder();
        for (int k = 0; k < puzzle.distance(); k++) {
            hints.append(puzzle.hint(k));
        }
        return hints.toString();
    }

    private static void dueBoards(String when, SlidingTileIda puzzle, String start, String goal) {
        due(when + ": START", board(puzzle, false), start);
        due(when + ": GOAL", board(puzzle, true), goal);
    }

    private static String board(SlidingTileIda puzzle, boolean goal) {
        StringBuilder board = new StringBuilder();
        for (int x = 0; x < 6; x++) {
            board.append(puzzle.cell(goal, x));
        }
        return board.toString();
    }
}
