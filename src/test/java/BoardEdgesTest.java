/** The edges of the board and of promises 1 to 4 and 18: a test for each sentence that names one. */
public final class BoardEdgesTest {
    private static final int LEAST = Integer.MIN_VALUE;
    private static final int MOST = Integer.MAX_VALUE;

    public static void main(String[] args) {
        newObject();
        rowsOfReset();
        columnsOfReset();
        allSizes();
        resetTakesChipsAndWalkers();
        resetZeroesCounts();
        resetLeavesTurns();
        resetLeavesTheDueReplacing();
        resetIsAnAct();
        rowsAndColumnsOfCells();
        chipsOfPut();
        previousChips();
        putIsAnAct();
        putUnknownAheadOfBadValue();
        numbersOfStrew();
        strewsCellsOfItsSort();
        strewsLessThan99();
        strewsNone();
        Check.end();
    }

    private static void newObject() {
        Check.about("1: a board of 8 rows and 8 columns without chips and walkers");
        ChipPilers x = new ChipPilers();
        Check.due("rows", x.count(0), 8);
        Check.due("columns", x.count(1), 8);
        Check.due("walkers", x.count(2), 0);
        Check.due("chips", x.count(3), 0);
        Check.due("chips(0, 0)", x.chips(0, 0), 0);
        Check.due("chips(7, 7)", x.chips(7, 7), 0);
        Check.due("chips(8, 7)", x.chips(8, 7), ChipPilers.UNKNOWN);
        Check.due("chips(7, 8)", x.chips(7, 8), ChipPilers.UNKNOWN);
        Check.due("walker(0, 0)", x.walker(0, 0), ChipPilers.UNKNOWN);
    }

    private static void rowsOfReset() {
        Check.about("2: rows: 2 to 16");
        ChipPilers x = new ChipPilers();
        for (int rows : new int[] {LEAST, -2, -1, 0, 1, 17, 18, 256, MOST}) {
            Check.due("reset " + rows, x.reset(rows, 8), ChipPilers.BAD_VALUE);
        }
        Check.due("the board stays", x.count(0), 8);
        Check.due("2", x.reset(2, 8), 16);
        Check.due("2 rows", x.count(0), 2);
        Check.due("16", x.reset(16, 8), 128);
        Check.due("16 rows", x.count(0), 16);
    }

    private static void columnsOfReset() {
        Check.about("2: columns: 2 to 16");
        ChipPilers x = new ChipPilers();
        for (int columns : new int[] {LEAST, -2, -1, 0, 1, 17, 18, 256, MOST}) {
            Check.due("reset " + columns, x.reset(8, columns), ChipPilers.BAD_VALUE);
            Check.due("reset of both " + columns, x.reset(columns, columns), ChipPilers.BAD_VALUE);
        }
        Check.due("the board stays", x.count(1), 8);
        Check.due("2", x.reset(8, 2), 16);
        Check.due("2 columns", x.count(1), 2);
        Check.due("16", x.reset(8, 16), 128);
        Check.due("16 columns", x.count(1), 16);
    }

    private static void allSizes() {
        Check.about("2: returns the number of cells");
        for (int rows = 2; rows <= 16; rows++) {
            ChipPilers x = new ChipPilers();
            for (int columns = 2; columns <= 16; columns++) {
                Check.due("reset " + rows + " " + columns, x.reset(rows, columns), rows * columns);
                Check.due("cells of " + rows + " " + columns, x.strew(0, 0, 1), rows * columns);
            }
        }
    }

    private static void resetTakesChipsAndWalkers() {
        Check.about("2: makes the board anew, without chips and walkers");
        ChipPilers x = new ChipPilers();
        x.reset(16, 16);
        x.put(15, 15, 99);
        x.put(0, 15, 99);
        x.put(1, 1, 99);
        for (int number = 0; number < 8; number++) {
            x.addWalker(15, number, 0, 0, 1);
        }
        x.reset(2, 2);
        Check.due("chips", x.count(3), 0);
        Check.due("heaps", x.count(5), 0);
        Check.due("walkers", x.count(2), 0);
        Check.due("walker(0, 0)", x.walker(0, 0), ChipPilers.UNKNOWN);
        Check.due("chips(1, 1)", x.chips(1, 1), 0);
        x.reset(16, 16);
        Check.due("chips of the great board", x.count(3), 0);
        Check.due("chips(15, 15)", x.chips(15, 15), 0);
        Check.due("room for walkers", x.addWalker(15, 15, 0, 0, 1), 0);
    }

    private static void resetZeroesCounts() {
        Check.about("2: steps, merges and splits are 0 then");
        ChipPilers x = new ChipPilers();
        x.addWalker(0, 0, 1, 1, 9);
        x.put(0, 1, 1);
        x.walk(0, 1);
        x.put(0, 2, 1);
        x.put(0, 3, 1);
        x.put(1, 2, 1);
        x.walk(0, 1);
        Check.due("merges ahead", x.count(6), 1);
        Check.due("splits ahead", x.count(7), 1);
        Check.due("steps ahead", x.count(8), 2);
        x.reset(8, 8);
        Check.due("merges", x.count(6), 0);
        Check.due("splits", x.count(7), 0);
        Check.due("steps", x.count(8), 0);
    }

    private static void resetLeavesTurns() {
        Check.about("2: the row of turns and its place stay");
        ChipPilers x = new ChipPilers();
        x.addTurn(9);
        x.addTurn(5);
        x.addTurn(0);
        x.addWalker(4, 4, 0, 0, 1);
        x.walk(0, 2);
        x.reset(8, 8);
        Check.due("how many", x.count(10), 3);
        Check.due("place", x.count(9), 2);
        Check.due("turn 0", x.turn(0), 9);
        Check.due("turn 1", x.turn(1), 5);
        Check.due("turn 2", x.turn(2), 0);
        x.addWalker(4, 4, 0, 0, 1);
        x.walk(0, 1);
        Check.due("the number at the place is taken", x.walker(0, 2), 0);
        x.walk(0, 1);
        Check.due("then the first one", x.walker(0, 2), 2);
    }

    private static void resetLeavesTheDueReplacing() {
        Check.about("2 and 8: whether the 0 is to be replaced belongs to the row of turns, which stays");
        ChipPilers x = new ChipPilers();
        x.reset(3, 3);
        Check.due("still due", x.addTurn(0), 1);
        x.reset(4, 4);
        Check.due("no more due, though a 0 stands there alone", x.addTurn(7), 2);
    }

    private static void resetIsAnAct() {
        Check.about("2: this is an act");
        ChipPilers x = new ChipPilers();
        x.put(7, 7, 3);
        Check.due("the same size", x.reset(8, 8), 64);
        Check.due("states", x.count(11), 2);
        Check.due("a smaller one", x.reset(2, 3), 6);
        Check.due("states", x.count(11), 3);
        Check.due("a refused one", x.reset(1, 3), ChipPilers.BAD_VALUE);
        Check.due("states", x.count(11), 3);
        x.undo();
        Check.due("undo", x.undo(), 1);
        Check.due("chips(7, 7)", x.chips(7, 7), 3);
    }

    private static void rowsAndColumnsOfCells() {
        Check.about("3 and 18: row: a row, column: a column");
        for (int[] size : new int[][] {{2, 2}, {2, 16}, {16, 2}, {16, 16}, {8, 8}, {3, 5}}) {
            ChipPilers x = new ChipPilers();
            x.reset(size[0], size[1]);
            int lastRow = size[0] - 1;
            int lastColumn = size[1] - 1;
            int[][] known = {{0, 0}, {0, lastColumn}, {lastRow, 0}, {lastRow, lastColumn}};
            for (int index = 0; index < 4; index++) {
                Check.due("put in corner " + index, x.put(known[index][0], known[index][1], index + 1), 0);
            }
            for (int index = 0; index < 4; index++) {
                Check.due("chips of corner " + index, x.chips(known[index][0], known[index][1]), index + 1);
            }
            int[][] unknown = {{-1, 0}, {0, -1}, {-1, -1}, {lastRow + 1, 0}, {0, lastColumn + 1},
                {lastRow + 1, lastColumn + 1}, {-1, lastColumn}, {lastRow, -1}, {LEAST, 0}, {0, LEAST}, {MOST, 0},
                {0, MOST}, {-1, 16}, {1, -16}, {lastRow + 1, -1}};
            for (int[] cell : unknown) {
                String of = " of " + cell[0] + " " + cell[1];
                Check.due("put" + of, x.put(cell[0], cell[1], 9), ChipPilers.UNKNOWN);
                Check.due("chips" + of, x.chips(cell[0], cell[1]), ChipPilers.UNKNOWN);
            }
            Check.due("chips on the board", x.count(3), 10);
        }
    }

    private static void chipsOfPut() {
        Check.about("3: chips: 0 to 99");
        ChipPilers x = new ChipPilers();
        for (int chips : new int[] {LEAST, -99, -1, 100, 101, MOST}) {
            Check.due("put " + chips, x.put(3, 3, chips), ChipPilers.BAD_VALUE);
        }
        Check.due("none came", x.chips(3, 3), 0);
        Check.due("put 99", x.put(3, 3, 99), 0);
        Check.due("99", x.chips(3, 3), 99);
        Check.due("put 0", x.put(3, 3, 0), 99);
        Check.due("0", x.chips(3, 3), 0);
    }

    private static void previousChips() {
        Check.about("3: sets the chips of a cell and returns the previous ones");
        ChipPilers x = new ChipPilers();
        Check.due("none ahead", x.put(0, 0, 1), 0);
        Check.due("1 ahead", x.put(0, 0, 99), 1);
        Check.due("99 ahead", x.put(0, 0, 98), 99);
        Check.due("98 ahead", x.put(0, 0, 98), 98);
        Check.due("the cell alone", x.count(3), 98);
    }

    private static void putIsAnAct() {
        Check.about("3: this is an act");
        ChipPilers x = new ChipPilers();
        x.put(0, 0, 0);
        Check.due("no change, but an act", x.count(11), 1);
        x.put(0, 0, 100);
        x.put(8, 0, 1);
        Check.due("refused ones are none", x.count(11), 1);
    }

    private static void putUnknownAheadOfBadValue() {
        Check.about("3: UNKNOWN; BAD_VALUE");
        ChipPilers x = new ChipPilers();
        Check.due("both by the row", x.put(8, 0, 100), ChipPilers.UNKNOWN);
        Check.due("both by the column", x.put(0, -1, -1), ChipPilers.UNKNOWN);
    }

    private static void numbersOfStrew() {
        Check.about("4: a: 0 to 9, b: 0 to 9, m: 1 to 20");
        ChipPilers x = new ChipPilers();
        int[][] bad = {{-1, 0, 1}, {10, 0, 1}, {0, -1, 1}, {0, 10, 1}, {0, 0, 0}, {0, 0, -1}, {0, 0, 21},
            {LEAST, 0, 1}, {MOST, 0, 1}, {0, LEAST, 1}, {0, MOST, 1}, {0, 0, LEAST}, {0, 0, MOST}};
        for (int[] of : bad) {
            Check.due("strew " + of[0] + " " + of[1] + " " + of[2], x.strew(of[0], of[1], of[2]), ChipPilers.BAD_VALUE);
        }
        Check.due("no chips", x.count(3), 0);
        Check.due("no act", x.count(11), 0);
        Check.due("a 0, b 0, m 1", x.strew(0, 0, 1), 64);
        Check.due("a 9, b 0, m 20", x.strew(9, 0, 20), 8);
        Check.due("a 0, b 9, m 20", x.strew(0, 9, 20), 8);
        Check.due("a 9, b 9, m 1", x.strew(9, 9, 1), 64);
    }

    private static void strewsCellsOfItsSort() {
        Check.about("4: those for which (row * a + column * b) mod m is 0");
        int[][] sorts = {{0, 0, 20}, {9, 9, 20}, {9, 8, 17}, {1, 0, 16}, {0, 1, 15}, {1, 1, 2}, {7, 3, 19}, {2, 4, 8}};
        for (int[] sort : sorts) {
            ChipPilers x = new ChipPilers();
            x.reset(16, 16);
            int due = 0;
            for (int row = 0; row < 16; row++) {
                for (int column = 0; column < 16; column++) {
                    due += (row * sort[0] + column * sort[1]) % sort[2] == 0 ? 1 : 0;
                }
            }
            String call = "strew " + sort[0] + " " + sort[1] + " " + sort[2];
            Check.due(call, x.strew(sort[0], sort[1], sort[2]), due);
            Check.due(call + ": chips then", x.count(3), due);
            for (int place = 0; place < 16; place++) {
                int one = (15 * sort[0] + place * sort[1]) % sort[2] == 0 ? 1 : 0;
                Check.due(call + ": last row, column " + place, x.chips(15, place), one);
            }
        }
    }

    private static void strewsLessThan99() {
        Check.about("4: one chip more on each cell that has less than 99");
        ChipPilers x = new ChipPilers();
        x.reset(2, 2);
        x.put(0, 0, 99);
        x.put(0, 1, 98);
        x.put(1, 0, 97);
        Check.due("three", x.strew(0, 0, 1), 3);
        Check.due("99 stay", x.chips(0, 0), 99);
        Check.due("98 become 99", x.chips(0, 1), 99);
        Check.due("97 become 98", x.chips(1, 0), 98);
        Check.due("0 become 1", x.chips(1, 1), 1);
        Check.due("two", x.strew(0, 0, 1), 2);
        Check.due("one", x.strew(0, 0, 1), 1);
    }

    private static void strewsNone() {
        Check.about("4: NONE if none does");
        ChipPilers x = new ChipPilers();
        x.put(0, 0, 99);
        int states = x.count(11);
        Check.due("the one of the sort is full", x.strew(9, 9, 20), ChipPilers.NONE);
        Check.due("no act", x.count(11), states);
        Check.due("nothing changes", x.count(3), 99);
        Check.due("BAD_VALUE ahead of NONE", x.strew(9, 9, 21), ChipPilers.BAD_VALUE);
    }
}
