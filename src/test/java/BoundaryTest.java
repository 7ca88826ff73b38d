import java.util.ArrayList;
import java.util.List;
import java.util.function.ToLongFunction;

/**
 * One test for each sentence of the document that names a boundary case: too small, too large, empty, full, a
 * wrap-around, a refused call. What a test finds wrong is printed under its sentence.
 *
 * <p>Answers that are too long to work out by hand (distances above 6, their solutions, and which boards have the most)
 * were found by a search written in another language, apart from the class; that search is not kept here, but
 * AllPairsTest asks for the same answers without such numbers.
 */
public final class BoundaryTest {
    private static final int BAD = -1;
    private static final int NONE = -2;
    private static final int UP = 0;
    private static final int DOWN = 1;
    private static final int LEFT = 2;
    private static final int RIGHT = 3;
    private static final int FARTHEST = 21;
    private static final int CALLS = 512;

    /** How many calls all(puzzle) makes at most. */
    private static final int MOST_QUESTIONS = 12 + 5 + FARTHEST;

    private static final String FIRST = "123450";

    // Beside the nearest wrong numbers: those that a mask, a remainder, a cast to byte or short, a shift or an
    // overflow would turn into right ones.
    private static final int[] NOT_CELLS = {
        -1, 6, 7, -2, -5, -6, -8, 8, 11, 12, 32, 255, 256, 65536, 0x20000000, 0x40000000, 0x55555556, -65536,
        Integer.MIN_VALUE, Integer.MIN_VALUE + 1, Integer.MAX_VALUE,
    };
    private static final int[] NOT_MOVES = {
        -1, 4, -2, -3, -4, 5, 6, 7, 8, 32, 255, 256, 65536, 0x40000000, -65536,
        Integer.MIN_VALUE, Integer.MIN_VALUE + 1, Integer.MAX_VALUE,
    };

    /** START and GOAL: with a solution, with none, equal, one move apart, farthest apart. */
    private static final String[][] PAIRS = {
        {"412503", FIRST}, {"123540", FIRST}, {FIRST, FIRST}, {"504132", "504132"}, {"123405", FIRST},
        {"450123", FIRST}, {"543201", "201543"}, {"012345", "213450"},
    };

    private static int wrong = 0;
    private static String sentence = "";
    private static int wrongOfSentence = 0;

    public static void main(String[] args) {
        test("What it is: An object is used for at most 512 calls", BoundaryTest::the512thCallIsRight);
        test("What it is: 512 calls, one half of them refused", BoundaryTest::the512thCallIsRightAfterRefusals);
        test("What it is: all that an object shows up to its 512th call", BoundaryTest::allIsRightUpToThe512thCall);

        test("Terms: each of the tiles 1 to 5 is in one cell, and one cell is the gap", BoundaryTest::boardsStayWhole);
        test("Terms: A move is POSSIBLE iff the gap does not leave the board (possible)", BoundaryTest::possibleMoves);
        test("Terms: A move is POSSIBLE iff the gap does not leave the board (above, below)",
            BoundaryTest::noMoveOverUpperAndLowerEdge);
        test("Terms: A move is POSSIBLE iff the gap does not leave the board (no wrap-around of a row)",
            BoundaryTest::noMoveOverLeftAndRightEdge);
        test("Terms: length 0 if the two boards are equal", BoundaryTest::lengthOfEqualBoards);
        test("Terms: FIRST, where two differ first (at the first move)", BoundaryTest::firstWhereFirstMovesDiffer);
        test("Terms: FIRST, where two differ first (late)", BoundaryTest::firstWhereLateMovesDiffer);

        test("Promise 1: Both boards hold 1 2 3 and 4 5 0", BoundaryTest::newObject);
        test("Promise 1: and so does every later new object", BoundaryTest::newObjectBesideUsedOne);

        test("Promise 2: on the GOAL (goal true) or on the START (false)", BoundaryTest::exchangeOnOneBoardAlone);
        test("Promise 2: also of tiles that aren't beside each other", BoundaryTest::exchangeOfFarTiles);
        test("Promise 2: and of the gap", BoundaryTest::exchangeOfTheGap);
        test("Promise 2: x = y changes nothing", BoundaryTest::exchangeOfACellWithItself);
        test("Promise 2: x outside 0..5: refused, answers false", BoundaryTest::exchangeWithXOutside);
        test("Promise 2: y outside 0..5: refused, answers false", BoundaryTest::exchangeWithYOutside);
        test("Promise 2: x and y outside 0..5: refused, answers false", BoundaryTest::exchangeWithBothOutside);
        test("Promise 2: Else true", BoundaryTest::exchangeOfEveryPair);

        test("Promise 3: move outside 0..3: BAD", BoundaryTest::moveOutside);
        test("Promise 3: outside 0..3: BAD, wherever the gap is", BoundaryTest::moveOutsideInEveryCell);
        test("Promise 3: it is not possible: NONE", BoundaryTest::moveNotPossible);
        test("Promise 3: on the START", BoundaryTest::moveLeavesTheGoal);
        test("Promise 3: answers the cell in which the gap is then", BoundaryTest::moveAnswersTheNewCell);

        test("Promise 4: what a cell holds (the outermost cells)", BoundaryTest::outermostCells);
        test("Promise 4: BAD for x outside 0..5", BoundaryTest::cellOutside);

        test("Promise 5: Whether there is a solution (the empty one)", BoundaryTest::solvableByTheEmptySolution);
        test("Promise 5: Whether there is a solution (there is none)", BoundaryTest::notSolvable);
        test("Promise 5: Whether there is a solution (the longest)", BoundaryTest::solvableFromFarthest);

        test("Promise 6: The length of the best solutions (from 0 to the greatest)", BoundaryTest::everyDistance);
        test("Promise 6: NONE if there is no solution", BoundaryTest::distanceWithoutSolution);

        test("Promise 7: The number of best solutions (the empty one counts)", BoundaryTest::oneEmptySolution);
        test("Promise 7: The number of best solutions (the greatest)", BoundaryTest::mostBestSolutions);
        test("Promise 7: 0 if there is none", BoundaryTest::noBestSolutions);

        test("Promise 8: Move number k, from 0, to distance() - 1", BoundaryTest::hintFromFirstToLast);
        test("Promise 8: NONE if there is no solution", BoundaryTest::hintWithoutSolution);
        test("Promise 8: NONE if k is below 0", BoundaryTest::hintTooSmall);
        test("Promise 8: NONE if k is above distance() - 1", BoundaryTest::hintTooLarge);
        test("Promise 8: NONE for every k where distance() is 0", BoundaryTest::hintOfEqualBoards);

        test("Promise 9: bit m speaks of move m", BoundaryTest::eachGoodMoveAlone);
        test("Promise 9: The set of the moves (the fullest)", BoundaryTest::fullestGoodMoves);
        test("Promise 9: 0 if there is no solution", BoundaryTest::goodMovesWithoutSolution);
        test("Promise 9: 0 if distance() is 0", BoundaryTest::goodMovesOfEqualBoards);

        test("Promise 10: NONE if there is no solution", BoundaryTest::stepWithoutSolution);
        test("Promise 10: NONE if distance() is 0", BoundaryTest::stepOnEqualBoards);
        test("Promise 10: Makes the first move (the last that is left)", BoundaryTest::lastStep);
        test("Promise 10: Makes the first move of the first best solution (from the farthest board)",
            BoundaryTest::stepsFromFarthest);

        test("Promise 11: Exchanges the two boards (equal ones)", BoundaryTest::swapOfEqualBoards);
        test("Promise 11: Exchanges the two boards (without a solution)", BoundaryTest::swapWithoutSolution);
        test("Promise 11: Exchanges the two boards (farthest apart)", BoundaryTest::swapOfFarthestBoards);
        test("Promise 11: Exchanges the two boards (twice)", BoundaryTest::swapTwice);

        test("Promises 4 to 9: a question changes nothing", BoundaryTest::questionsChangeNothing);

        System.out.println(wrong == 0 ? "all answers are as due" : wrong + " answers are not as due");
        if (wrong != 0) {
            System.exit(1);
        }
    }

    // ---- What it is

    private static void the512thCallIsRight() {
        due("goal changes, then cell(true, 4)", last(p -> p.exchange(true, 4, 5) ? 1 : 0, p -> p.cell(true, 4)), 0);
        due("goal changes, then distance()", last(p -> p.exchange(true, 4, 5) ? 1 : 0, SlidingTileIda::distance), 1);
        due("start changes, then distance()", last(p -> p.exchange(false, 4, 5) ? 1 : 0, SlidingTileIda::distance), 1);
        due("moves right and not possible, then move(2)", last(p -> p.move(RIGHT), p -> p.move(LEFT)), 4);
        due("moves up, then step()", last(p -> p.move(UP), SlidingTileIda::step), DOWN);
        due("steps, then move(0)", last(SlidingTileIda::step, p -> p.move(UP)), 2);
        due("swaps, then exchange(true, 0, 5)",
            last(BoundaryTest::swap, p -> p.exchange(true, 0, 5) ? 1 : 0), 1);
        due("hints, then bestSolutions()", last(p -> p.hint(0), SlidingTileIda::bestSolutions), 1);
        due("cells, then hint(0)", last(p -> p.cell(true, 0), p -> p.hint(0)), NONE);
        due("distances, then goodMoves()", last(SlidingTileIda::distance, SlidingTileIda::goodMoves), 0);
        due("best solutions, then solvable()", last(SlidingTileIda::bestSolutions, p -> p.solvable() ? 1 : 0), 1);
    }

    private static void the512thCallIsRightAfterRefusals() {
        due("refused exchanges, then distance()",
            last(p -> p.exchange(true, 6, 0) ? 1 : 0, SlidingTileIda::distance), 0);
        due("bad moves, then move(0)", last(p -> p.move(4), p -> p.move(UP)), 2);
        due("moves that aren't possible, then move(2)", last(p -> p.move(DOWN), p -> p.move(LEFT)), 4);
        due("bad cells, then cell(false, 4)", last(p -> p.cell(false, 6), p -> p.cell(false, 4)), 5);
        due("hints outside, then step()", last(p -> p.hint(-1), SlidingTileIda::step), NONE);
        SlidingTileIda stepped = new SlidingTileIda();
        repeat(stepped, SlidingTileIda::step, CALLS - 2);
        stepped.exchange(false, 4, 5);
        due("refused steps and an exchange, then step()", stepped.step(), RIGHT);
        SlidingTileIda puzzle = new SlidingTileIda();
        for (int call = 1; call < CALLS - 1; call += 2) {
            due("call " + call, puzzle.move(call % 4 == 1 ? LEFT : RIGHT), call % 4 == 1 ? 4 : 5);
            due("call " + (call + 1), puzzle.exchange(false, 0, -1) ? 1 : 0, 0);
        }
        // The last of the 255 moves was to the left: the START is 123405, two moves from 120453.
        due("call 511", puzzle.exchange(true, 2, 5) ? 1 : 0, 1);
        due("call 512", puzzle.distance(), 2);
    }

    /** What an object answers to its 512th call after 511 calls of one kind. */
    private static long last(ToLongFunction<SlidingTileIda> call, ToLongFunction<SlidingTileIda> lastCall) {
        SlidingTileIda puzzle = new SlidingTileIda();
        repeat(puzzle, call, CALLS - 1);
        return lastCall.applyAsLong(puzzle);
    }

    private static void allIsRightUpToThe512thCall() {
        dueLikeFewCalls("step()", SlidingTileIda::step, 5, 5);
        dueLikeFewCalls("swapBoards()", BoundaryTest::swap, 0, 1);
        dueLikeFewCalls("exchange(false, 0, 5)", p -> p.exchange(false, 0, 5) ? 1 : 0, 0, 1);
        dueLikeFewCalls("exchange(true, 1, 3)", p -> p.exchange(true, 1, 3) ? 1 : 0, 0, 1);
        dueLikeFewCalls("move(0)", p -> p.move(UP), 1, 1);
        dueLikeFewCalls("move(2)", p -> p.move(LEFT), 1, 1);
        dueLikeFewCalls("move(3)", p -> p.move(RIGHT), 1, 1);
        dueLikeFewCalls("move(1), not possible", p -> p.move(DOWN), 0, 0);
        dueLikeFewCalls("move(4)", p -> p.move(4), 0, 0);
        dueLikeFewCalls("exchange(false, 6, 0)", p -> p.exchange(false, 6, 0) ? 1 : 0, 0, 0);
        dueLikeFewCalls("exchange(true, 0, -1)", p -> p.exchange(true, 0, -1) ? 1 : 0, 0, 0);
        dueLikeFewCalls("cell(true, 6)", p -> p.cell(true, 6), 0, 0);
        dueLikeFewCalls("cell(false, 5)", p -> p.cell(false, 5), 0, 0);
        dueLikeFewCalls("solvable()", p -> p.solvable() ? 1 : 0, 0, 0);
        dueLikeFewCalls("distance()", SlidingTileIda::distance, 0, 0);
        dueLikeFewCalls("bestSolutions()", SlidingTileIda::bestSolutions, 0, 0);
        dueLikeFewCalls("hint(4)", p -> p.hint(4), 0, 0);
        dueLikeFewCalls("hint(5), too large", p -> p.hint(5), 0, 0);
        dueLikeFewCalls("goodMoves()", SlidingTileIda::goodMoves, 0, 0);
    }

    /** An even and an odd number of calls of one kind, with the questions after them 512 at most, against few calls. */
    private static void dueLikeFewCalls(String call, ToLongFunction<SlidingTileIda> asked, int likeEven, int likeOdd) {
        int many = CALLS - 5 - MOST_QUESTIONS;
        for (int number = many - 1; number <= many; number++) {
            SlidingTileIda puzzle = fiveMovesAway();
            repeat(puzzle, asked, number);
            SlidingTileIda twin = fiveMovesAway();
            repeat(twin, asked, number % 2 == 0 ? likeEven : likeOdd);
            dueLike("after " + number + " times " + call, puzzle, twin);
        }
    }

    private static void repeat(SlidingTileIda puzzle, ToLongFunction<SlidingTileIda> asked, int times) {
        for (int made = 0; made < times; made++) {
            asked.applyAsLong(puzzle);
        }
    }

    private static SlidingTileIda fiveMovesAway() {
        SlidingTileIda puzzle = new SlidingTileIda();
        for (int move : new int[] {UP, LEFT, LEFT, DOWN, RIGHT}) {
            puzzle.move(move);
        }
        return puzzle;
    }

    // ---- Terms

    private static void boardsStayWhole() {
        for (String[] pair : PAIRS) {
            SlidingTileIda puzzle = puzzle(pair);
            dueWhole(puzzle);
            for (int call = 0; call < 20; call++) {
                puzzle.exchange(call % 2 == 0, call % 7, call * 5 % 7);
                puzzle.move(call % 5);
                puzzle.step();
                if (call % 3 == 0) {
                    puzzle.swapBoards();
                }
                dueWhole(puzzle);
            }
        }
    }

    private static void dueWhole(SlidingTileIda puzzle) {
        for (boolean goal : new boolean[] {false, true}) {
            String board = board(puzzle, goal);
            String sorted = board.chars().sorted().collect(
                StringBuilder::new, StringBuilder::appendCodePoint, StringBuilder::append).toString();
            due("the numbers on the board " + board, sorted, "012345");
        }
    }

    private static void possibleMoves() {
        dueMove("012345", DOWN, 3, "312045");
        dueMove("012345", RIGHT, 1, "102345");
        dueMove("102345", DOWN, 4, "142305");
        dueMove("102345", LEFT, 0, "012345");
        dueMove("102345", RIGHT, 2, "120345");
        dueMove("120345", DOWN, 5, "125340");
        dueMove("120345", LEFT, 1, "102345");
        dueMove("123045", UP, 0, "023145");
        dueMove("123045", RIGHT, 4, "123405");
        dueMove("123405", UP, 1, "103425");
        dueMove("123405", LEFT, 3, "123045");
        dueMove("123405", RIGHT, 5, "123450");
        dueMove("123450", UP, 2, "120453");
        dueMove("123450", LEFT, 4, "123405");
    }

    private static void noMoveOverUpperAndLowerEdge() {
        dueMove("012345", UP, NONE, "012345");
        dueMove("102345", UP, NONE, "102345");
        dueMove("120345", UP, NONE, "120345");
        dueMove("123045", DOWN, NONE, "123045");
        dueMove("123405", DOWN, NONE, "123405");
        dueMove("123450", DOWN, NONE, "123450");
    }

    private static void noMoveOverLeftAndRightEdge() {
        dueMove("012345", LEFT, NONE, "012345");
        dueMove("123045", LEFT, NONE, "123045");
        dueMove("120345", RIGHT, NONE, "120345");
        dueMove("123450", RIGHT, NONE, "123450");
        // Were there a move from cell 2 to cell 3, or back, these boards would be one move apart.
        due("distance() from cell 2 to cell 3", puzzle("120345", "123045").distance(), 11);
        due("distance() from cell 3 to cell 2", puzzle("123045", "120345").distance(), 11);
    }

    private static void dueMove(String start, int move, int answer, String after) {
        SlidingTileIda puzzle = puzzle(start, FIRST);
        due("move(" + move + ") on " + start, puzzle.move(move), answer);
        dueBoards("after move(" + move + ") on " + start, puzzle, after, FIRST);
    }

    private static void lengthOfEqualBoards() {
        for (String board : allBoards()) {
            due("distance() from " + board + " to itself", puzzle(board, board).distance(), 0);
        }
    }

    private static void firstWhereFirstMovesDiffer() {
        // 120213302120331202133 122031302213031220313 212033120213302120331 221303122031302213031
        due("hints of 450123", hints(puzzle("450123", FIRST)), "120213302120331202133");
        // Two of the six best solutions begin with up, two with left and two with right.
        due("hints of 543201", hints(puzzle("543201", "201543")), "021330212033120213302");
        // 130213 goes on about a square of two by two, 312031 goes back again.
        due("hints of 105432", hints(puzzle("105432", FIRST)), "130213");
    }

    private static void firstWhereLateMovesDiffer() {
        // 02120313021203130213 02120313021203312031 02130221303120213031 20312021303120213031
        due("hints of 321540", hints(puzzle("321540", FIRST)), "02120313021203130213");
        // 2120313021203130213 2120313021203312031 2130221303120213031
        due("hints of 320541", hints(puzzle("320541", FIRST)), "2120313021203130213");
    }

    // ---- Promise 1

    private static void newObject() {
        dueBoards("a new object", new SlidingTileIda(), FIRST, FIRST);
    }

    private static void newObjectBesideUsedOne() {
        SlidingTileIda used = puzzle("412503", "321054");
        SlidingTileIda fresh = new SlidingTileIda();
        dueBoards("a new object", fresh, FIRST, FIRST);
        due("distance() of a new object", fresh.distance(), 0);
        fresh.exchange(true, 0, 1);
        fresh.move(LEFT);
        dueBoards("the used object", used, "412503", "321054");
    }

    // ---- Promise 2

    private static void exchangeOnOneBoardAlone() {
        SlidingTileIda puzzle = new SlidingTileIda();
        due("exchange(true, 0, 1)", puzzle.exchange(true, 0, 1) ? 1 : 0, 1);
        dueBoards("after exchange(true, 0, 1)", puzzle, FIRST, "213450");
        due("exchange(false, 3, 4)", puzzle.exchange(false, 3, 4) ? 1 : 0, 1);
        dueBoards("after exchange(false, 3, 4)", puzzle, "123540", "213450");
    }

    private static void exchangeOfFarTiles() {
        dueExchange(0, 2, "321450");
        dueExchange(0, 4, "523410");
        dueExchange(2, 3, "124350");
        dueExchange(4, 0, "523410");
    }

    private static void exchangeOfTheGap() {
        dueExchange(0, 5, "023451");
        dueExchange(5, 1, "103452");
        dueExchange(5, 2, "120453");
        dueExchange(3, 5, "123054");
    }

    private static void dueExchange(int x, int y, String after) {
        SlidingTileIda puzzle = new SlidingTileIda();
        due("exchange(false, " + x + ", " + y + ")", puzzle.exchange(false, x, y) ? 1 : 0, 1);
        dueBoards("after exchange(false, " + x + ", " + y + ")", puzzle, after, FIRST);
        due("exchange(true, " + x + ", " + y + ")", puzzle.exchange(true, x, y) ? 1 : 0, 1);
        dueBoards("after exchange(true, " + x + ", " + y + ")", puzzle, after, after);
    }

    private static void exchangeOfACellWithItself() {
        for (String[] pair : PAIRS) {
            for (int x = 0; x < 6; x++) {
                dueUnchangedByExchange(pair, x, x, 1);
            }
        }
    }

    private static void exchangeWithXOutside() {
        for (int outside : NOT_CELLS) {
            for (int inside = 0; inside < 6; inside++) {
                dueRefusedExchange(outside, inside);
            }
        }
    }

    private static void exchangeWithYOutside() {
        for (int outside : NOT_CELLS) {
            for (int inside = 0; inside < 6; inside++) {
                dueRefusedExchange(inside, outside);
            }
        }
    }

    private static void exchangeWithBothOutside() {
        for (int outside : NOT_CELLS) {
            // x = y changes nothing, but is refused all the same where there is no such cell.
            dueRefusedExchange(outside, outside);
            dueRefusedExchange(outside, -1);
            dueRefusedExchange(6, outside);
        }
    }

    private static void dueRefusedExchange(int x, int y) {
        for (String[] pair : PAIRS) {
            dueUnchangedByExchange(pair, x, y, 0);
        }
    }

    private static void dueUnchangedByExchange(String[] pair, int x, int y, int answer) {
        dueUnchanged(pair, "exchange(false, " + x + ", " + y + ")", p -> p.exchange(false, x, y) ? 1 : 0, answer);
        dueUnchanged(pair, "exchange(true, " + x + ", " + y + ")", p -> p.exchange(true, x, y) ? 1 : 0, answer);
    }

    private static void exchangeOfEveryPair() {
        for (int x = 0; x < 6; x++) {
            for (int y = 0; y < 6; y++) {
                char[] after = FIRST.toCharArray();
                after[x] = FIRST.charAt(y);
                after[y] = FIRST.charAt(x);
                dueExchange(x, y, new String(after));
            }
        }
    }

    // ---- Promise 3

    private static void moveOutside() {
        for (int outside : NOT_MOVES) {
            for (String[] pair : PAIRS) {
                dueUnchanged(pair, "move(" + outside + ")", p -> p.move(outside), BAD);
            }
        }
    }

    private static void moveOutsideInEveryCell() {
        for (String start : new String[] {"012345", "102345", "120345", "123045", "123405", "123450"}) {
            for (int outside : NOT_MOVES) {
                due("move(" + outside + ") on " + start, puzzle(start, FIRST).move(outside), BAD);
            }
        }
    }

    private static void moveNotPossible() {
        for (String goal : new String[] {FIRST, "213450", "012345", "450123"}) {
            dueNotPossible("012345", goal, UP);
            dueNotPossible("012345", goal, LEFT);
            dueNotPossible("102345", goal, UP);
            dueNotPossible("120345", goal, UP);
            dueNotPossible("120345", goal, RIGHT);
            dueNotPossible("123045", goal, DOWN);
            dueNotPossible("123045", goal, LEFT);
            dueNotPossible("123405", goal, DOWN);
            dueNotPossible("123450", goal, DOWN);
            dueNotPossible("123450", goal, RIGHT);
        }
    }

    private static void dueNotPossible(String start, String goal, int move) {
        dueUnchanged(new String[] {start, goal}, "move(" + move + ")", p -> p.move(move), NONE);
    }

    private static void moveLeavesTheGoal() {
        SlidingTileIda puzzle = puzzle("412503", "120453");
        due("move(3)", puzzle.move(RIGHT), 5);
        dueBoards("after move(3)", puzzle, "412530", "120453");
        // The gap of the GOAL could not go down any more after this; that of the START goes up.
        due("move(0)", puzzle.move(UP), 2);
        dueBoards("after move(0)", puzzle, "410532", "120453");
    }

    private static void moveAnswersTheNewCell() {
        SlidingTileIda puzzle = new SlidingTileIda();
        int[] moves = {LEFT, LEFT, UP, RIGHT, RIGHT, DOWN};
        int[] cells = {4, 3, 0, 1, 2, 5};
        for (int made = 0; made < moves.length; made++) {
            due("move(" + moves[made] + ")", puzzle.move(moves[made]), cells[made]);
            due("cell(false, " + cells[made] + ")", puzzle.cell(false, cells[made]), 0);
        }
    }

    // ---- Promise 4

    private static void outermostCells() {
        SlidingTileIda puzzle = puzzle("504132", "321054");
        due("cell(false, 0)", puzzle.cell(false, 0), 5);
        due("cell(false, 5)", puzzle.cell(false, 5), 2);
        due("cell(true, 0)", puzzle.cell(true, 0), 3);
        due("cell(true, 5)", puzzle.cell(true, 5), 4);
        due("cell(false, 1), the gap", puzzle.cell(false, 1), 0);
        due("cell(true, 3), the gap", puzzle.cell(true, 3), 0);
    }

    private static void cellOutside() {
        for (int outside : NOT_CELLS) {
            for (String[] pair : PAIRS) {
                dueUnchanged(pair, "cell(false, " + outside + ")", p -> p.cell(false, outside), BAD);
                dueUnchanged(pair, "cell(true, " + outside + ")", p -> p.cell(true, outside), BAD);
            }
        }
    }

    // ---- Promise 5

    private static void solvableByTheEmptySolution() {
        for (String board : allBoards()) {
            due("solvable() from " + board + " to itself", puzzle(board, board).solvable() ? 1 : 0, 1);
        }
    }

    private static void notSolvable() {
        for (String board : allBoards()) {
            due("solvable() from " + board + " with two tiles exchanged",
                puzzle(withTwoTilesExchanged(board), board).solvable() ? 1 : 0, 0);
        }
    }

    private static void solvableFromFarthest() {
        due("solvable() from 450123", puzzle("450123", FIRST).solvable() ? 1 : 0, 1);
        due("solvable() from 543201 to 201543", puzzle("543201", "201543").solvable() ? 1 : 0, 1);
    }

    // ---- Promise 6

    private static void everyDistance() {
        String way = "120213302120331202133";
        SlidingTileIda puzzle = puzzle("450123", FIRST);
        for (int made = 0; made < FARTHEST; made++) {
            due("distance() after " + made + " moves from 450123", puzzle.distance(), FARTHEST - made);
            puzzle.move(way.charAt(made) - '0');
        }
        due("distance() after 21 moves from 450123", puzzle.distance(), 0);
        puzzle.move(LEFT);
        due("distance() one move beyond the GOAL", puzzle.distance(), 1);
    }

    private static void distanceWithoutSolution() {
        for (String board : allBoards()) {
            due("distance() from " + board + " with two tiles exchanged",
                puzzle(withTwoTilesExchanged(board), board).distance(), NONE);
        }
    }

    // ---- Promise 7

    private static void oneEmptySolution() {
        for (String board : allBoards()) {
            due("bestSolutions() from " + board + " to itself", puzzle(board, board).bestSolutions(), 1);
        }
    }

    private static void mostBestSolutions() {
        due("bestSolutions() of 543201 to 201543", puzzle("543201", "201543").bestSolutions(), 6);
        due("bestSolutions() of 450123", puzzle("450123", FIRST).bestSolutions(), 4);
        due("bestSolutions() of 321540", puzzle("321540", FIRST).bestSolutions(), 4);
        due("bestSolutions() of 453120", puzzle("453120", FIRST).bestSolutions(), 2);
    }

    private static void noBestSolutions() {
        for (String board : allBoards()) {
            due("bestSolutions() from " + board + " with two tiles exchanged",
                puzzle(withTwoTilesExchanged(board), board).bestSolutions(), 0);
        }
    }

    // ---- Promise 8

    private static void hintFromFirstToLast() {
        SlidingTileIda near = puzzle("123405", FIRST);
        due("hint(0) of 1", near.hint(0), RIGHT);
        SlidingTileIda far = puzzle("450123", FIRST);
        due("hint(0) of 21", far.hint(0), DOWN);
        due("hint(20) of 21", far.hint(20), RIGHT);
        String way = "120213302120331202133";
        // Backward too: what a hint answers does not hang on the hint before it.
        for (int k = FARTHEST - 1; k >= 0; k--) {
            due("hint(" + k + ") of 21", far.hint(k), way.charAt(k) - '0');
        }
    }

    private static void hintWithoutSolution() {
        for (int k = -4; k <= FARTHEST + 2; k++) {
            dueHint("123540", FIRST, k, NONE);
            dueHint("012345", "213450", k, NONE);
        }
        dueHint("123540", FIRST, Integer.MIN_VALUE, NONE);
        dueHint("123540", FIRST, Integer.MAX_VALUE, NONE);
    }

    private static void hintTooSmall() {
        for (int k : new int[] {-1, -2, -3, -5, -21, -256, -65536, Integer.MIN_VALUE, Integer.MIN_VALUE + 1}) {
            dueHint("412503", FIRST, k, NONE);
            dueHint("450123", FIRST, k, NONE);
        }
    }

    private static void hintTooLarge() {
        for (int k : new int[] {5, 6, 20, 21, 22, 32, 256, 65536, 0x40000000, Integer.MAX_VALUE}) {
            dueHint("412503", FIRST, k, NONE);
        }
        for (int k : new int[] {21, 22, 32, 256, 65536, 0x40000000, Integer.MAX_VALUE}) {
            dueHint("450123", FIRST, k, NONE);
        }
        dueHint("123405", FIRST, 1, NONE);
    }

    private static void hintOfEqualBoards() {
        for (int k : new int[] {0, 1, 2, 21, -1, -2, Integer.MIN_VALUE, Integer.MAX_VALUE}) {
            dueHint(FIRST, FIRST, k, NONE);
            dueHint("504132", "504132", k, NONE);
        }
    }

    private static void dueHint(String start, String goal, int k, int answer) {
        dueUnchanged(new String[] {start, goal}, "hint(" + k + ")", p -> p.hint(k), answer);
    }

    // ---- Promise 9

    private static void eachGoodMoveAlone() {
        due("goodMoves() up", puzzle(FIRST, "120453").goodMoves(), 1);
        due("goodMoves() down", puzzle("120453", FIRST).goodMoves(), 2);
        due("goodMoves() left", puzzle(FIRST, "123405").goodMoves(), 4);
        due("goodMoves() right", puzzle("123405", FIRST).goodMoves(), 8);
    }

    private static void fullestGoodMoves() {
        // No board has four moves, and from the middle of a row all three can be good.
        due("goodMoves() up, left, right", puzzle("543201", "201543").goodMoves(), 1 + 4 + 8);
        due("goodMoves() down, left, right", puzzle("201543", "543201").goodMoves(), 2 + 4 + 8);
        due("goodMoves() down, left", puzzle("450123", FIRST).goodMoves(), 2 + 4);
        due("goodMoves() up, left", puzzle("432150", FIRST).goodMoves(), 1 + 4);
        due("goodMoves() up, right", puzzle("321054", FIRST).goodMoves(), 1 + 8);
    }

    private static void goodMovesWithoutSolution() {
        for (String board : allBoards()) {
            due("goodMoves() from " + board + " with two tiles exchanged",
                puzzle(withTwoTilesExchanged(board), board).goodMoves(), 0);
        }
    }

    private static void goodMovesOfEqualBoards() {
        for (String board : allBoards()) {
            due("goodMoves() from " + board + " to itself", puzzle(board, board).goodMoves(), 0);
        }
    }

    // ---- Promise 10

    private static void stepWithoutSolution() {
        for (String board : new String[] {FIRST, "504132", "012345", "102345", "120345", "123045", "123405"}) {
            dueUnchanged(new String[] {withTwoTilesExchanged(board), board}, "step()", SlidingTileIda::step, NONE);
        }
    }

    private static void stepOnEqualBoards() {
        for (String board : new String[] {FIRST, "504132", "012345", "102345", "120345", "123045", "123405"}) {
            dueUnchanged(new String[] {board, board}, "step()", SlidingTileIda::step, NONE);
        }
    }

    private static void lastStep() {
        SlidingTileIda puzzle = puzzle("123405", FIRST);
        due("step() at distance 1", puzzle.step(), RIGHT);
        dueBoards("after the last step()", puzzle, FIRST, FIRST);
        due("distance() after the last step()", puzzle.distance(), 0);
        due("step() after the last one", puzzle.step(), NONE);
        dueBoards("after a step() too many", puzzle, FIRST, FIRST);
    }

    private static void stepsFromFarthest() {
        dueSteps("450123", FIRST, "120213302120331202133");
        dueSteps("543201", "201543", "021330212033120213302");
        dueSteps("321540", FIRST, "02120313021203130213");
    }

    private static void dueSteps(String start, String goal, String way) {
        SlidingTileIda puzzle = puzzle(start, goal);
        SlidingTileIda moved = puzzle(start, goal);
        for (int made = 0; made < way.length(); made++) {
            int move = way.charAt(made) - '0';
            due("step() " + made + " from " + start, puzzle.step(), move);
            moved.move(move);
            due("START after step() " + made + " from " + start, board(puzzle, false), board(moved, false));
        }
        dueBoards("after the last step() from " + start, puzzle, goal, goal);
    }

    // ---- Promise 11

    private static void swapOfEqualBoards() {
        dueUnchanged(new String[] {FIRST, FIRST}, "swapBoards()", BoundaryTest::swap, 0);
        dueUnchanged(new String[] {"504132", "504132"}, "swapBoards()", BoundaryTest::swap, 0);
    }

    private static void swapWithoutSolution() {
        SlidingTileIda puzzle = puzzle("123540", FIRST);
        puzzle.swapBoards();
        dueBoards("after swapBoards()", puzzle, FIRST, "123540");
        dueLike("after swapBoards()", puzzle, puzzle(FIRST, "123540"));
        due("distance() after swapBoards()", puzzle.distance(), NONE);
    }

    private static void swapOfFarthestBoards() {
        SlidingTileIda puzzle = puzzle("450123", FIRST);
        puzzle.swapBoards();
        dueBoards("after swapBoards()", puzzle, FIRST, "450123");
        due("distance() after swapBoards()", puzzle.distance(), FARTHEST);
        due("bestSolutions() after swapBoards()", puzzle.bestSolutions(), 4);
        // Not the first solution of 450123 read backward: another one comes first in this direction.
        due("hints after swapBoards()", hints(puzzle), "021203312021330212033");
        due("goodMoves() after swapBoards()", puzzle.goodMoves(), 1 + 4);
    }

    private static void swapTwice() {
        for (String[] pair : PAIRS) {
            dueUnchanged(pair, "swapBoards() twice", p -> swap(p) + swap(p), 0);
        }
    }

    private static long swap(SlidingTileIda puzzle) {
        puzzle.swapBoards();
        return 0;
    }

    // ---- Promises 4 to 9

    private static void questionsChangeNothing() {
        for (String[] pair : PAIRS) {
            dueUnchanged(pair, "all questions", p -> all(p).get(0), pair[0].charAt(0) - '0');
        }
    }

    // ---- What a call changed

    /** A call that is to change nothing: its answer, and all that the object shows at once and after other calls. */
    private static void dueUnchanged(String[] pair, String call, ToLongFunction<SlidingTileIda> asked, long answer) {
        SlidingTileIda puzzle = puzzle(pair);
        SlidingTileIda twin = puzzle(pair);
        String where = " on " + pair[0] + " to " + pair[1];
        due(call + where, asked.applyAsLong(puzzle), answer);
        dueBoards("after " + call, puzzle, pair[0], pair[1]);
        dueLike("after " + call + where, puzzle, twin);
        // First the calls that are never refused, for the same reason as in the questions.
        List<ToLongFunction<SlidingTileIda>> later = List.of(
            BoundaryTest::swap, p -> p.exchange(true, 1, 5) ? 1 : 0, p -> p.exchange(false, 4, 2) ? 1 : 0,
            SlidingTileIda::step, p -> p.move(UP), p -> p.move(RIGHT), SlidingTileIda::step);
        for (int made = 0; made < later.size(); made++) {
            String when = "later call " + made + " after " + call + where;
            due(when, later.get(made).applyAsLong(puzzle), later.get(made).applyAsLong(twin));
            dueLike(when, puzzle, twin);
        }
    }

    private static void dueLike(String when, SlidingTileIda puzzle, SlidingTileIda twin) {
        due("all that is shown " + when, all(puzzle).toString(), all(twin).toString());
    }

    /**
     * The answers to all questions: the boards, and what promises 5 to 9 say of them. None of them is a refused call,
     * or else what a refused call changes would be changed on the object beside it too.
     */
    private static List<Integer> all(SlidingTileIda puzzle) {
        List<Integer> answers = new ArrayList<>();
        for (int x = 0; x < 6; x++) {
            answers.add(puzzle.cell(false, x));
            answers.add(puzzle.cell(true, x));
        }
        answers.add(puzzle.solvable() ? 1 : 0);
        answers.add(puzzle.distance());
        answers.add(puzzle.bestSolutions());
        answers.add(puzzle.goodMoves());
        int distance = puzzle.distance();
        for (int k = 0; k < distance; k++) {
            answers.add(puzzle.hint(k));
        }
        return answers;
    }

    // ---- Boards

    private static SlidingTileIda puzzle(String... pair) {
        SlidingTileIda puzzle = new SlidingTileIda();
        lay(puzzle, false, pair[0]);
        lay(puzzle, true, pair[1]);
        return puzzle;
    }

    private static void lay(SlidingTileIda puzzle, boolean goal, String board) {
        char[] now = FIRST.toCharArray();
        for (int x = 0; x < 6; x++) {
            int y = new String(now).indexOf(board.charAt(x));
            if (y != x) {
                puzzle.exchange(goal, x, y);
                now[y] = now[x];
                now[x] = board.charAt(x);
            }
        }
    }

    /** Without the gap: an exchange of two tiles alone cannot be brought about by moves. */
    private static String withTwoTilesExchanged(String board) {
        return board.replace('1', 'x').replace('2', '1').replace('x', '2');
    }

    private static List<String> allBoards() {
        List<String> boards = new ArrayList<>();
        for (int number = 12345; number <= 543210; number++) {
            String board = String.format("%06d", number);
            if (board.chars().allMatch(c -> c <= '5') && board.chars().distinct().count() == 6) {
                boards.add(board);
            }
        }
        return boards;
    }

    private static String hints(SlidingTileIda puzzle) {
        StringBuilder hints = new StringBuilder();
        int distance = puzzle.distance();
        for (int k = 0; k < distance; k++) {
            hints.append(puzzle.hint(k));
        }
        return hints.toString();
    }

    private static String board(SlidingTileIda puzzle, boolean goal) {
        StringBuilder board = new StringBuilder();
        for (int x = 0; x < 6; x++) {
            board.append(puzzle.cell(goal, x));
        }
        return board.toString();
    }

    // ---- What is due

    private static void test(String words, Runnable test) {
        sentence = words;
        wrongOfSentence = 0;
        test.run();
    }

    private static void dueBoards(String when, SlidingTileIda puzzle, String start, String goal) {
        due("START " + when, board(puzzle, false), start);
        due("GOAL " + when, board(puzzle, true), goal);
    }

    private static void due(String call, long got, long want) {
        due(call, Long.toString(got), Long.toString(want));
    }

    private static void due(String call, String got, String want) {
        if (!got.equals(want)) {
            wrong++;
            wrongOfSentence++;
            if (wrongOfSentence == 1) {
                System.out.println(sentence);
            }
            if (wrongOfSentence <= 5) {
                System.out.println("  " + call + " answered " + got + ", due is " + want);
            }
        }
    }
}
