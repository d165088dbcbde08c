/** The edges of steps and of promises 10 and 11: a test for each sentence that names one. */
public final class WalkingEdgesTest {
    private static final int LEAST = Integer.MIN_VALUE;
    private static final int MOST = Integer.MAX_VALUE;

    public static void main(String[] args) {
        stepsOfWalk();
        walkUnknownAheadOfBadValue();
        numberOfRounds();
        roundsWithoutWalkers();
        roundsOfEightWalkers();
        roundsInAscendingOrder();
        turnsOfEachNumber();
        blindInCornersOfTheLeastBoard();
        blindAtEachEdge();
        turnComesAheadOfTheWall();
        oneTurnAStep();
        noWayRoundTheEdge();
        gatherers();
        haulers();
        sweepersOnTheGreatestHeap();
        sweepersOnAnotherHeap();
        sweeperLeavesEachCellOfTheGreatestHeap();
        sweeperByTheOrderOfHeaps();
        greatestAheadOfTheStepNotOfTheRound();
        onlyTheCellOfTheStep();
        pocketUpToItsCapacity();
        Check.end();
    }

    private static void stepsOfWalk() {
        Check.about("10: steps: 1 to 100");
        ChipPilers x = new ChipPilers();
        x.addWalker(0, 0, 1, 0, 1);
        for (int steps : new int[] {LEAST, -1, 0, 101, 102, MOST}) {
            Check.due("walk " + steps, x.walk(0, steps), ChipPilers.BAD_VALUE);
        }
        Check.due("no steps", x.count(8), 0);
        Check.due("no act", x.count(11), 1);
        Check.due("walk 1", x.walk(0, 1), 0);
        Check.due("one step", x.walker(0, 6), 1);
        Check.due("its column", x.walker(0, 1), 1);
        Check.due("walk 100", x.walk(0, 100), 0);
        Check.due("a hundred more", x.walker(0, 6), 101);
        Check.due("two acts", x.count(11), 3);
    }

    private static void walkUnknownAheadOfBadValue() {
        Check.about("10: UNKNOWN; BAD_VALUE");
        ChipPilers x = new ChipPilers();
        Check.due("without walkers", x.walk(0, 0), ChipPilers.UNKNOWN);
        x.addWalker(0, 0, 0, 0, 1);
        Check.due("behind the last", x.walk(1, 101), ChipPilers.UNKNOWN);
        Check.due("ahead of the first", x.walk(-1, 101), ChipPilers.UNKNOWN);
    }

    private static void numberOfRounds() {
        Check.about("11: rounds: 1 to 50");
        ChipPilers x = new ChipPilers();
        x.addWalker(0, 0, 1, 0, 1);
        for (int rounds : new int[] {LEAST, -1, 0, 51, 52, MOST}) {
            Check.due("rounds " + rounds, x.rounds(rounds), ChipPilers.BAD_VALUE);
        }
        Check.due("no steps", x.count(8), 0);
        Check.due("no act", x.count(11), 1);
        x.put(5, 5, 1);
        Check.due("rounds 1", x.rounds(1), 1);
        Check.due("one step", x.count(8), 1);
        Check.due("rounds 50", x.rounds(50), 1);
        Check.due("50 more", x.count(8), 51);
        Check.due("two acts", x.count(11), 4);
    }

    private static void roundsWithoutWalkers() {
        Check.about("11: NONE if there are no walkers");
        ChipPilers x = new ChipPilers();
        Check.due("a new object", x.rounds(1), ChipPilers.NONE);
        Check.due("with chips", x.put(0, 0, 1) + x.rounds(50), ChipPilers.NONE);
        Check.due("one act, that of put", x.count(11), 1);
        Check.due("BAD_VALUE ahead of NONE", x.rounds(0), ChipPilers.BAD_VALUE);
        Check.due("BAD_VALUE ahead of NONE", x.rounds(51), ChipPilers.BAD_VALUE);
        x.addWalker(0, 0, 1, 0, 1);
        Check.due("with a walker", x.rounds(1), 1);
        x.reset(8, 8);
        Check.due("behind reset", x.rounds(1), ChipPilers.NONE);
        Check.due("the place stays", x.count(9), 0);
    }

    private static void roundsOfEightWalkers() {
        Check.about("Steps: in a round, all walkers make one step each");
        ChipPilers x = new ChipPilers();
        x.addTurn(0);
        x.addTurn(0);
        x.addTurn(0);
        for (int number = 0; number < 8; number++) {
            x.addWalker(number, 0, 1, 0, 1);
        }
        Check.due("one round", x.rounds(1), 0);
        Check.due("place", x.count(9), 2);
        for (int number = 0; number < 8; number++) {
            Check.due("steps of " + number, x.walker(number, 6), 1);
        }
        Check.due("50 rounds", x.rounds(50), 0);
        Check.due("all steps", x.count(8), 408);
    }

    private static void roundsInAscendingOrder() {
        Check.about("Steps: in ascending order");
        ChipPilers x = new ChipPilers();
        x.addTurn(5);
        x.addTurn(7);
        x.addTurn(9);
        for (int number = 0; number < 3; number++) {
            x.addWalker(4, 4, 0, 0, 1);
        }
        x.rounds(1);
        Check.due("the first number is walker 0's", x.walker(0, 2), 1);
        Check.due("the second is walker 1's", x.walker(1, 2), 3);
        Check.due("the third is walker 2's", x.walker(2, 2), 2);
        ChipPilers y = new ChipPilers();
        y.addWalker(0, 0, 1, 0, 1);
        y.addWalker(0, 2, 3, 0, 1);
        y.put(0, 1, 1);
        y.rounds(1);
        Check.due("walker 0 gets the chip", y.walker(0, 3), 1);
        Check.due("walker 1 comes too late", y.walker(1, 3), 0);
    }

    private static void turnsOfEachNumber() {
        Check.about("Turns: 0 to 4 leave it, 5 and 6 turn it to the right, 7 and 8 to the left, 9 turns it round");
        int[][] due = {{0, 1, 2, 3}, {0, 1, 2, 3}, {0, 1, 2, 3}, {0, 1, 2, 3}, {0, 1, 2, 3},
            {1, 2, 3, 0}, {1, 2, 3, 0}, {3, 0, 1, 2}, {3, 0, 1, 2}, {2, 3, 0, 1}};
        int[] rows = {0, 1, 2, 1};
        int[] columns = {1, 2, 1, 0};
        for (int number = 0; number <= 9; number++) {
            for (int direction = 0; direction < 4; direction++) {
                ChipPilers x = new ChipPilers();
                x.reset(3, 3);
                x.addTurn(number);
                x.addWalker(1, 1, direction, 0, 1);
                x.walk(0, 1);
                String call = "number " + number + " direction " + direction;
                int then = due[number][direction];
                Check.due(call, x.walker(0, 2), then);
                Check.due(call + ": row", x.walker(0, 0), rows[then]);
                Check.due(call + ": column", x.walker(0, 1), columns[then]);
            }
        }
    }

    private static void blindInCornersOfTheLeastBoard() {
        Check.about("Steps: if there is a wall ahead, it turns to the right until there is none ahead (in corners)");
        // row, column, and the direction of the step by the direction ahead of it
        int[][] corners = {{0, 0, 1, 1, 2, 1}, {0, 1, 2, 2, 2, 3}, {1, 1, 0, 3, 3, 3}, {1, 0, 0, 1, 0, 0}};
        for (int[] corner : corners) {
            for (int direction = 0; direction < 4; direction++) {
                ChipPilers x = new ChipPilers();
                x.reset(2, 2);
                x.addWalker(corner[0], corner[1], direction, 0, 1);
                x.walk(0, 1);
                Check.due("from " + corner[0] + " " + corner[1] + " to " + direction, x.walker(0, 2),
                    corner[2 + direction]);
                Check.due("a step", x.walker(0, 6), 1);
                int moved = Math.abs(x.walker(0, 0) - corner[0]) + Math.abs(x.walker(0, 1) - corner[1]);
                Check.due("to a cell beside", moved, 1);
            }
        }
    }

    private static void blindAtEachEdge() {
        Check.about("Steps: if there is a wall ahead, it turns to the right (at edges)");
        for (int[] size : new int[][] {{3, 3}, {16, 16}, {3, 16}, {16, 3}}) {
            int row = size[0] - 1;
            int column = size[1] - 1;
            // row, column, direction; row and column then
            int[][] runs = {{0, 1, 0, 0, 2}, {1, column, 1, 2, column}, {row, 1, 2, row, 0}, {1, 0, 3, 0, 0}};
            for (int[] run : runs) {
                ChipPilers x = new ChipPilers();
                x.reset(size[0], size[1]);
                x.addWalker(run[0], run[1], run[2], 0, 1);
                x.walk(0, 1);
                String call = "board " + size[0] + " " + size[1] + " direction " + run[2];
                Check.due(call, x.walker(0, 2), (run[2] + 1) % 4);
                Check.due(call + ": row", x.walker(0, 0), run[3]);
                Check.due(call + ": column", x.walker(0, 1), run[4]);
            }
        }
    }

    private static void turnComesAheadOfTheWall() {
        Check.about("Steps: in this order: a turn, then the wall");
        ChipPilers x = new ChipPilers();
        x.addTurn(7);
        x.addWalker(0, 4, 0, 0, 1);
        x.walk(0, 1);
        Check.due("left of the wall, no wall there", x.walker(0, 2), 3);
        ChipPilers y = new ChipPilers();
        y.addTurn(9);
        y.addWalker(7, 7, 0, 0, 1);
        y.walk(0, 1);
        Check.due("round to a wall, then to the right", y.walker(0, 2), 3);
        ChipPilers z = new ChipPilers();
        z.addTurn(5);
        z.addWalker(0, 7, 0, 0, 1);
        z.walk(0, 1);
        Check.due("to the right to a wall, and on", z.walker(0, 2), 2);
    }

    private static void oneTurnAStep() {
        Check.about("Turns: whenever a turn is needed, the number at the place is taken (one a step, at walls too)");
        ChipPilers x = new ChipPilers();
        x.reset(2, 2);
        for (int size = 0; size < 5; size++) {
            x.addTurn(0);
        }
        x.addWalker(0, 0, 0, 0, 1);
        for (int step = 1; step <= 5; step++) {
            x.walk(0, 1);
            Check.due("place behind step " + step, x.count(9), step % 5);
        }
    }

    private static void noWayRoundTheEdge() {
        Check.about("Board: the board has walls at its edges");
        ChipPilers x = new ChipPilers();
        x.reset(2, 3);
        x.addWalker(0, 0, 1, 0, 1);
        int[][] cells = {{0, 1}, {0, 2}, {1, 2}, {1, 1}, {1, 0}, {0, 0}, {0, 1}};
        for (int step = 0; step < cells.length; step++) {
            x.walk(0, 1);
            Check.due("row of step " + step, x.walker(0, 0), cells[step][0]);
            Check.due("column of step " + step, x.walker(0, 1), cells[step][1]);
        }
    }

    /** A walker of a sort beside a cell with chips; its step goes there. */
    private static ChipPilers beside(int sort, int capacity, int pocket, int chips) {
        ChipPilers x = new ChipPilers();
        x.put(0, 0, pocket);
        x.addWalker(0, 0, 1, sort, capacity);
        Check.runText(x, "g9");
        Check.due("pocket ahead", x.walker(0, 3), pocket);
        x.put(0, 1, chips);
        return x;
    }

    private static void stepDue(ChipPilers x, String call, int pocket, int chips) {
        int pocketAhead = x.walker(0, 3);
        int picked = x.walker(0, 7);
        Check.due(call + ": pocket", x.walk(0, 1), pocket);
        Check.due(call + ": chips", x.chips(0, 1), chips);
        Check.due(call + ": picked up", x.walker(0, 7) - picked, Math.max(0, pocket - pocketAhead));
        Check.due(call + ": dropped", x.walker(0, 8), Math.max(0, pocketAhead - pocket));
    }

    private static void gatherers() {
        Check.about("Steps, gatherer: p 0 and c at least 1; p above 0 and c at least 1, c less than 99; otherwise nothing");
        // capacity, pocket, chips; pocket and chips then
        int[][] rows = {{1, 0, 0, 0, 0}, {1, 0, 1, 1, 0}, {1, 0, 2, 1, 1}, {9, 0, 99, 1, 98}, {9, 0, 98, 1, 97},
            {1, 1, 0, 1, 0}, {1, 1, 1, 0, 2}, {1, 1, 98, 0, 99}, {1, 1, 99, 1, 99}, {9, 1, 1, 0, 2},
            {9, 9, 98, 8, 99}, {9, 9, 99, 9, 99}, {9, 5, 1, 4, 2}, {9, 9, 0, 9, 0}, {9, 2, 50, 1, 51}};
        for (int[] row : rows) {
            String call = "capacity " + row[0] + " pocket " + row[1] + " chips " + row[2];
            stepDue(beside(0, row[0], row[1], row[2]), call, row[3], row[4]);
        }
    }

    private static void haulers() {
        Check.about("Steps, hauler: c from 1 to 2, p less than the capacity; c at least 3, p above 0; otherwise nothing");
        int[][] rows = {{9, 0, 0, 0, 0}, {9, 0, 1, 1, 0}, {9, 0, 2, 2, 0}, {9, 0, 3, 0, 3}, {9, 7, 2, 9, 0},
            {9, 8, 2, 9, 1}, {9, 8, 1, 9, 0}, {9, 9, 1, 9, 1}, {9, 9, 2, 9, 2}, {1, 0, 2, 1, 1}, {1, 0, 1, 1, 0},
            {1, 1, 1, 1, 1}, {1, 1, 2, 1, 2}, {1, 1, 3, 0, 4}, {9, 1, 3, 0, 4}, {9, 9, 3, 0, 12}, {9, 9, 90, 0, 99},
            {9, 9, 91, 1, 99}, {9, 9, 98, 8, 99}, {9, 9, 99, 9, 99}, {9, 0, 99, 0, 99}, {9, 1, 98, 0, 99},
            {9, 1, 99, 1, 99}, {9, 1, 0, 1, 0}, {9, 9, 0, 9, 0}, {9, 1, 2, 3, 0}, {2, 1, 2, 2, 1}};
        for (int[] row : rows) {
            String call = "capacity " + row[0] + " pocket " + row[1] + " chips " + row[2];
            stepDue(beside(1, row[0], row[1], row[2]), call, row[3], row[4]);
        }
    }

    private static void sweepersOnTheGreatestHeap() {
        Check.about("Steps, sweeper: no chip of a cell of the greatest heap; p above 0, c at least 1, c less than 99");
        int[][] rows = {{9, 0, 0, 0, 0}, {9, 0, 1, 0, 1}, {9, 0, 99, 0, 99}, {9, 1, 1, 0, 2}, {9, 1, 98, 0, 99},
            {9, 1, 99, 1, 99}, {9, 9, 1, 8, 2}, {9, 8, 1, 7, 2}, {1, 1, 1, 0, 2}, {1, 0, 1, 0, 1}, {9, 1, 0, 1, 0},
            {9, 9, 99, 9, 99}};
        for (int[] row : rows) {
            String call = "capacity " + row[0] + " pocket " + row[1] + " chips " + row[2];
            stepDue(beside(2, row[0], row[1], row[2]), call, row[3], row[4]);
        }
    }

    private static void sweepersOnAnotherHeap() {
        Check.about("Steps, sweeper: p less than the capacity, c at least 1; if it picks up nothing, p above 0, c less than 99");
        int[][] rows = {{9, 0, 0, 0, 0}, {9, 0, 1, 1, 0}, {9, 0, 2, 1, 1}, {9, 0, 99, 1, 98}, {9, 8, 1, 9, 0},
            {9, 8, 99, 9, 98}, {9, 9, 1, 8, 2}, {9, 9, 98, 8, 99}, {9, 9, 99, 9, 99}, {1, 0, 1, 1, 0}, {1, 1, 1, 0, 2},
            {1, 1, 99, 1, 99}, {1, 1, 98, 0, 99}, {1, 1, 0, 1, 0}, {9, 9, 0, 9, 0}};
        for (int[] row : rows) {
            ChipPilers x = beside(2, row[0], row[1], row[2]);
            x.put(7, 6, 50);
            x.put(7, 7, 99);
            String call = "capacity " + row[0] + " pocket " + row[1] + " chips " + row[2];
            stepDue(x, call, row[3], row[4]);
        }
    }

    private static void sweeperLeavesEachCellOfTheGreatestHeap() {
        Check.about("Steps, sweeper: no chip of a cell of the greatest heap, however few chips this cell has");
        ChipPilers x = new ChipPilers();
        x.addWalker(0, 0, 1, 2, 9);
        x.put(0, 1, 1);
        x.put(1, 1, 1);
        x.put(2, 1, 99);
        x.put(5, 5, 99);
        Check.due("of 101 chips", x.walk(0, 1), 0);
        x.put(5, 6, 2);
        Check.due("a cell without chips", x.walk(0, 1), 0);
        x.put(5, 6, 3);
        x.put(0, 3, 1);
        Check.due("a heap of one", x.walk(0, 1), 1);
    }

    private static void sweeperByTheOrderOfHeaps() {
        Check.about("Heaps: greater sizes first, then fewer cells, then the cell that comes first (for the greatest one)");
        // chips of the cells 0 1, 0 2 (one heap), 7 6 and 7 7 (the other); pocket of a sweeper behind its step to 0 1
        int[][] rows = {{5, 0, 6, 0, 1}, {6, 0, 5, 0, 0}, {5, 0, 5, 0, 0}, {4, 1, 5, 0, 1}, {5, 0, 4, 1, 0},
            {4, 1, 4, 1, 0}, {4, 2, 5, 0, 0}, {4, 1, 4, 2, 1}, {1, 0, 0, 1, 0}, {1, 1, 2, 0, 1}};
        for (int[] row : rows) {
            ChipPilers x = new ChipPilers();
            x.addWalker(0, 0, 1, 2, 9);
            x.put(0, 1, row[0]);
            x.put(0, 2, row[1]);
            x.put(7, 6, row[2]);
            x.put(7, 7, row[3]);
            Check.due("heaps " + row[0] + "+" + row[1] + " and " + row[2] + "+" + row[3], x.walk(0, 1), row[4]);
        }
        ChipPilers y = new ChipPilers();
        y.addWalker(7, 6, 1, 2, 9);
        y.put(7, 7, 3);
        y.put(0, 0, 3);
        Check.due("the other's cell comes first by rows", y.walk(0, 1), 1);
        ChipPilers z = new ChipPilers();
        z.addWalker(1, 7, 0, 2, 9);
        z.put(0, 7, 3);
        z.put(0, 0, 3);
        Check.due("the other's cell comes first by columns", z.walk(0, 1), 1);
        ChipPilers rowsFirst = new ChipPilers();
        rowsFirst.addWalker(1, 7, 0, 2, 9);
        rowsFirst.put(0, 7, 3);
        rowsFirst.put(1, 0, 3);
        Check.due("rows come ahead of columns", rowsFirst.walk(0, 1), 0);
    }

    private static void greatestAheadOfTheStepNotOfTheRound() {
        Check.about("Steps, sweeper: by the chips as they are ahead of this step");
        ChipPilers x = new ChipPilers();
        x.put(0, 0, 1);
        x.addWalker(0, 0, 1, 1, 9);
        Check.runText(x, "g");
        x.addWalker(7, 6, 1, 2, 9);
        x.put(0, 1, 5);
        x.put(7, 7, 5);
        x.put(7, 6, 1);
        x.rounds(1);
        Check.due("the hauler drops", x.chips(0, 1), 6);
        Check.due("6 and 6, fewer cells come first", x.walker(1, 3), 1);
        ChipPilers y = new ChipPilers();
        y.addWalker(0, 0, 1, 2, 9);
        y.put(0, 1, 6);
        y.put(7, 7, 5);
        Check.due("greatest ahead of the step", y.walk(0, 1), 0);
        ChipPilers z = new ChipPilers();
        z.addWalker(0, 0, 1, 2, 9);
        z.addWalker(7, 6, 1, 2, 9);
        z.put(0, 1, 6);
        z.put(7, 7, 7);
        z.rounds(1);
        Check.due("the first picks up", z.walker(0, 3), 1);
        Check.due("the second finds the greatest", z.walker(1, 3), 0);
    }

    private static void onlyTheCellOfTheStep() {
        Check.about("Steps: it looks at the chips of this cell (the one it moved to)");
        ChipPilers x = new ChipPilers();
        x.addWalker(0, 0, 1, 1, 9);
        x.put(0, 0, 2);
        Check.due("nothing is there", x.walk(0, 1), 0);
        Check.due("the cell behind it stays", x.chips(0, 0), 2);
    }

    private static void pocketUpToItsCapacity() {
        Check.about("Walkers: a pocket with 0 to 9 chips, a capacity (1 to 9)");
        for (int capacity = 1; capacity <= 9; capacity++) {
            ChipPilers x = new ChipPilers();
            x.addWalker(0, 0, 1, 1, capacity);
            for (int column = 1; column <= 7; column++) {
                x.put(0, column, 2);
            }
            Check.due("hauler of capacity " + capacity, x.walk(0, 7), capacity);
            Check.due("chips in pockets", x.count(4), capacity);
            Check.due("chips on the board", x.count(3), 14 - capacity);
            ChipPilers y = new ChipPilers();
            y.addWalker(0, 0, 1, 1, capacity);
            y.put(0, 0, 99);
            Check.due("plan", Check.runText(y, "g50"), 0);
            Check.due("pocket by a plan", y.walker(0, 3), capacity);
        }
    }
}
