/** The edges of walkers, of the row of turns and of promises 5 to 9, 19 and 23: a test for each sentence that names one. */
public final class WalkersEdgesTest {
    private static final int LEAST = Integer.MIN_VALUE;
    private static final int MOST = Integer.MAX_VALUE;

    public static void main(String[] args) {
        cellOfAddWalker();
        propertiesOfAddWalker();
        eightWalkers();
        orderOfAddWalker();
        beginsWithAnEmptyPocket();
        severalInOneCell();
        numbersOfWalkers();
        sortsOfSetSort();
        emptyUpTo99();
        emptyOntoNothing();
        emptyPocket();
        numbersOfAddTurn();
        thirtyNumbers();
        replacesTheFirst0();
        replacesBehindClearTurns();
        replacingIsPartOfTheState();
        placeOfAddTurn();
        clearTurnsOfEachSize();
        placeBehindTheEnd();
        indexOfTurn();
        whatOfWalker();
        chipsPickedUpAndDropped();
        Check.end();
    }

    private static void cellOfAddWalker() {
        Check.about("5: row: a row, column: a column");
        for (int[] size : new int[][] {{2, 2}, {16, 16}, {2, 16}, {16, 2}}) {
            ChipPilers x = new ChipPilers();
            x.reset(size[0], size[1]);
            int[][] unknown = {{-1, 0}, {0, -1}, {size[0], 0}, {0, size[1]}, {size[0], size[1]}, {LEAST, 0}, {MOST, 0},
                {0, LEAST}, {0, MOST}};
            for (int[] cell : unknown) {
                Check.due("addWalker at " + cell[0] + " " + cell[1],
                    x.addWalker(cell[0], cell[1], 0, 0, 1), ChipPilers.UNKNOWN);
            }
            Check.due("none came", x.count(2), 0);
            Check.due("the first cell", x.addWalker(0, 0, 0, 0, 1), 0);
            Check.due("the last cell", x.addWalker(size[0] - 1, size[1] - 1, 0, 0, 1), 1);
            Check.due("its row", x.walker(1, 0), size[0] - 1);
            Check.due("its column", x.walker(1, 1), size[1] - 1);
        }
    }

    private static void propertiesOfAddWalker() {
        Check.about("5: direction: 0 to 3, sort: 0 to 2, capacity: 1 to 9");
        ChipPilers x = new ChipPilers();
        for (int direction : new int[] {LEAST, -1, 4, MOST}) {
            Check.due("direction " + direction, x.addWalker(0, 0, direction, 0, 1), ChipPilers.BAD_VALUE);
        }
        for (int sort : new int[] {LEAST, -1, 3, MOST}) {
            Check.due("sort " + sort, x.addWalker(0, 0, 0, sort, 1), ChipPilers.BAD_VALUE);
        }
        for (int capacity : new int[] {LEAST, -1, 0, 10, MOST}) {
            Check.due("capacity " + capacity, x.addWalker(0, 0, 0, 0, capacity), ChipPilers.BAD_VALUE);
        }
        Check.due("no act", x.count(11), 0);
        Check.due("the least ones", x.addWalker(0, 0, 0, 0, 1), 0);
        Check.due("the greatest ones", x.addWalker(0, 0, 3, 2, 9), 1);
        Check.due("direction 3", x.walker(1, 2), 3);
        Check.due("sort 2", x.walker(1, 5), 2);
        Check.due("capacity 9", x.walker(1, 4), 9);
    }

    private static ChipPilers withEight() {
        ChipPilers x = new ChipPilers();
        for (int number = 0; number < 8; number++) {
            Check.due("walker " + number, x.addWalker(number, 7 - number, number % 4, number % 3, 9 - number), number);
        }
        return x;
    }

    private static void eightWalkers() {
        Check.about("5: FULL if there are 8");
        ChipPilers x = withEight();
        int states = x.count(11);
        Check.due("a ninth", x.addWalker(0, 0, 0, 0, 1), ChipPilers.FULL);
        Check.due("walkers", x.count(2), 8);
        Check.due("no act", x.count(11), states);
        Check.due("walker(8, 0)", x.walker(8, 0), ChipPilers.UNKNOWN);
        Check.due("the last one's row", x.walker(7, 0), 7);
        Check.due("the last one's column", x.walker(7, 1), 0);
        x.undo();
        Check.due("room again behind undo", x.addWalker(3, 4, 1, 2, 5), 7);
        Check.due("the new one's row", x.walker(7, 0), 3);
        Check.due("full again", x.addWalker(3, 4, 1, 2, 5), ChipPilers.FULL);
        x.reset(2, 2);
        Check.due("room behind reset", x.addWalker(1, 1, 0, 0, 1), 0);
    }

    private static void orderOfAddWalker() {
        Check.about("5: UNKNOWN; BAD_VALUE; FULL");
        ChipPilers x = withEight();
        Check.due("all three", x.addWalker(8, 0, 4, 3, 0), ChipPilers.UNKNOWN);
        Check.due("UNKNOWN and FULL", x.addWalker(0, 8, 0, 0, 1), ChipPilers.UNKNOWN);
        Check.due("direction and FULL", x.addWalker(0, 0, 4, 0, 1), ChipPilers.BAD_VALUE);
        Check.due("sort and FULL", x.addWalker(0, 0, 0, 3, 1), ChipPilers.BAD_VALUE);
        Check.due("capacity and FULL", x.addWalker(0, 0, 0, 0, 10), ChipPilers.BAD_VALUE);
        Check.due("UNKNOWN and BAD_VALUE", new ChipPilers().addWalker(-1, 0, -1, 0, 1), ChipPilers.UNKNOWN);
    }

    private static void beginsWithAnEmptyPocket() {
        Check.about("5: a walker with an empty pocket");
        ChipPilers x = new ChipPilers();
        x.put(1, 1, 9);
        x.addWalker(1, 1, 0, 1, 9);
        Check.due("pocket on a cell with chips", x.walker(0, 3), 0);
        Check.due("its chips stay", x.chips(1, 1), 9);
        Check.runText(x, "g9d2n2");
        Check.due("pocket ahead of reset", x.walker(0, 3), 7);
        x.reset(8, 8);
        x.addWalker(1, 1, 0, 1, 9);
        for (int what : new int[] {3, 6, 7, 8}) {
            Check.due("nothing of a walker ahead of reset: " + what, x.walker(0, what), 0);
        }
    }

    private static void severalInOneCell() {
        Check.about("Walkers: several walkers can be in one cell");
        ChipPilers x = new ChipPilers();
        for (int number = 0; number < 8; number++) {
            Check.due("walker " + number, x.addWalker(0, 0, 1, 0, 1), number);
        }
        x.put(0, 1, 8);
        Check.due("all go the same way", x.rounds(1), 0);
        Check.due("each took a chip", x.count(4), 8);
        for (int number = 0; number < 8; number++) {
            Check.due("column of " + number, x.walker(number, 1), 1);
        }
    }

    private static void numbersOfWalkers() {
        Check.about("6, 7, 10 and 19: walker: a walker; UNKNOWN");
        ChipPilers none = new ChipPilers();
        ChipPilers two = new ChipPilers();
        two.addWalker(0, 0, 1, 0, 1);
        two.addWalker(0, 0, 1, 0, 1);
        ChipPilers eight = withEight();
        unknownWalkers(none, new int[] {LEAST, -1, 0, 1, 7, 8, MOST});
        unknownWalkers(two, new int[] {LEAST, -1, 2, 3, 7, 8, MOST});
        unknownWalkers(eight, new int[] {LEAST, -8, -1, 8, 9, MOST});
        Check.due("the last of two", two.setSort(1, 1), 0);
        Check.due("the last of eight", eight.setSort(7, 2), 1);
        Check.due("the last of eight walks", eight.walk(7, 1), 0);
        Check.due("the last of eight has nothing", eight.empty(7), ChipPilers.NONE);
    }

    private static void unknownWalkers(ChipPilers x, int[] numbers) {
        int states = x.count(11);
        for (int number : numbers) {
            Check.due("setSort of " + number, x.setSort(number, 0), ChipPilers.UNKNOWN);
            Check.due("setSort of " + number + " to 3", x.setSort(number, 3), ChipPilers.UNKNOWN);
            Check.due("empty of " + number, x.empty(number), ChipPilers.UNKNOWN);
            Check.due("walk of " + number, x.walk(number, 1), ChipPilers.UNKNOWN);
            Check.due("no steps of " + number, x.walk(number, 0), ChipPilers.UNKNOWN);
            Check.due("walker " + number, x.walker(number, 0), ChipPilers.UNKNOWN);
            Check.due("what 9 of walker " + number, x.walker(number, 9), ChipPilers.UNKNOWN);
        }
        Check.due("no acts", x.count(11), states);
    }

    private static void sortsOfSetSort() {
        Check.about("6: sort: 0 to 2; returns the previous sort");
        ChipPilers x = new ChipPilers();
        x.addWalker(0, 0, 1, 1, 1);
        for (int sort : new int[] {LEAST, -1, 3, MOST}) {
            Check.due("setSort " + sort, x.setSort(0, sort), ChipPilers.BAD_VALUE);
        }
        Check.due("no act", x.count(11), 1);
        Check.due("it stays 1", x.walker(0, 5), 1);
        Check.due("to 0", x.setSort(0, 0), 1);
        Check.due("to 2", x.setSort(0, 2), 0);
        Check.due("to 2 again", x.setSort(0, 2), 2);
        Check.due("acts, the same sort too", x.count(11), 4);
        x.put(0, 1, 5);
        x.put(7, 7, 9);
        Check.due("the new sort is that of the next step", x.walk(0, 1), 1);
    }

    /** A walker of capacity 9 in the cell 0 0, with chips in its pocket and in its cell. */
    private static ChipPilers loaded(int pocket, int chips) {
        ChipPilers x = new ChipPilers();
        x.addWalker(0, 0, 1, 0, 9);
        x.put(0, 0, pocket);
        Check.runText(x, "g9");
        x.put(0, 0, chips);
        Check.due("pocket", x.walker(0, 3), pocket);
        return x;
    }

    private static void emptyUpTo99() {
        Check.about("7: NOT_POSSIBLE if the cell would have more than 99");
        int[][] loads = {{1, 98}, {9, 90}, {5, 94}};
        for (int[] load : loads) {
            ChipPilers fits = loaded(load[0], load[1]);
            Check.due("up to 99 with " + load[0], fits.empty(0), 99);
            Check.due("chips then", fits.chips(0, 0), 99);
            Check.due("pocket then", fits.walker(0, 3), 0);
            ChipPilers over = loaded(load[0], load[1] + 1);
            Check.due("up to 100 with " + load[0], over.empty(0), ChipPilers.NOT_POSSIBLE);
            Check.due("chips stay", over.chips(0, 0), load[1] + 1);
            Check.due("pocket stays", over.walker(0, 3), load[0]);
            Check.due("dropped stays", over.walker(0, 8), 0);
            Check.due("no act", over.count(11), 4);
        }
        Check.due("108", loaded(9, 99).empty(0), ChipPilers.NOT_POSSIBLE);
    }

    private static void emptyOntoNothing() {
        Check.about("7: empties the pocket onto its cell; returns the chips of the cell then");
        ChipPilers x = loaded(9, 0);
        Check.due("onto none", x.empty(0), 9);
        Check.due("chips", x.chips(0, 0), 9);
        Check.due("dropped", x.walker(0, 8), 9);
        Check.due("an act", x.count(11), 5);
        x.undo();
        Check.due("undone", x.walker(0, 3), 9);
        Check.due("one onto one", loaded(1, 1).empty(0), 2);
    }

    private static void emptyPocket() {
        Check.about("7: NONE if the pocket is empty");
        for (int chips : new int[] {0, 1, 98, 99}) {
            ChipPilers x = loaded(0, chips);
            int states = x.count(11);
            Check.due("on " + chips, x.empty(0), ChipPilers.NONE);
            Check.due("chips stay", x.chips(0, 0), chips);
            Check.due("no act", x.count(11), states);
        }
    }

    private static void numbersOfAddTurn() {
        Check.about("8: number: 0 to 9");
        ChipPilers x = new ChipPilers();
        for (int number : new int[] {LEAST, -1, 10, 11, MOST}) {
            Check.due("addTurn " + number, x.addTurn(number), ChipPilers.BAD_VALUE);
        }
        Check.due("no act", x.count(11), 0);
        for (int number = 0; number <= 9; number++) {
            Check.due("addTurn " + number, x.addTurn(number), number + 1);
            Check.due("turn " + number, x.turn(number), number);
        }
    }

    private static ChipPilers withThirty() {
        ChipPilers x = new ChipPilers();
        for (int size = 1; size <= 30; size++) {
            Check.due("number " + size, x.addTurn(size % 5), size);
        }
        return x;
    }

    private static void thirtyNumbers() {
        Check.about("8: FULL if there are 30");
        ChipPilers x = withThirty();
        Check.due("a 31st", x.addTurn(1), ChipPilers.FULL);
        Check.due("how many", x.count(10), 30);
        Check.due("BAD_VALUE ahead of FULL", x.addTurn(10), ChipPilers.BAD_VALUE);
        Check.due("BAD_VALUE ahead of FULL", x.addTurn(-1), ChipPilers.BAD_VALUE);
        Check.due("the last", x.turn(29), 0);
        Check.due("undo", x.undo(), 4);
        Check.due("29 behind undo", x.count(10), 29);
        Check.due("room for one", x.addTurn(9), 30);
        Check.due("it is the last", x.turn(29), 9);
    }

    private static void replacesTheFirst0() {
        Check.about("8: the first call behind the beginning replaces the 0 that stands there alone");
        ChipPilers x = new ChipPilers();
        Check.due("the first", x.addTurn(7), 1);
        Check.due("turn 0", x.turn(0), 7);
        Check.due("the second", x.addTurn(3), 2);
        Check.due("turn 0 stays", x.turn(0), 7);
        ChipPilers y = new ChipPilers();
        Check.due("a refused call", y.addTurn(10), ChipPilers.BAD_VALUE);
        Check.due("doesn't replace it", y.addTurn(0), 1);
        Check.due("an added 0 isn't replaced", y.addTurn(6), 2);
        Check.due("turn 0", y.turn(0), 0);
        Check.due("turn 1", y.turn(1), 6);
    }

    private static void replacesBehindClearTurns() {
        Check.about("8: or behind clearTurns()");
        ChipPilers x = new ChipPilers();
        x.clearTurns();
        Check.due("of a new object", x.addTurn(4), 1);
        x.addTurn(5);
        x.clearTurns();
        x.clearTurns();
        Check.due("behind two of it", x.addTurn(0), 1);
        Check.due("not again", x.addTurn(0), 2);
    }

    private static void replacingIsPartOfTheState() {
        Check.about("8: whether this is still due is part of the state");
        ChipPilers x = new ChipPilers();
        x.keep(0);
        x.addTurn(0);
        x.keep(1);
        Check.due("undo", x.undo(), 0);
        Check.due("due again", x.addTurn(8), 1);
        x.restore(1);
        Check.due("not due in the snapshot", x.addTurn(2), 2);
        x.restore(0);
        Check.due("due in the other one", x.addTurn(3), 1);
        x.clearTurns();
        x.undo();
        Check.due("not due behind an undone clearTurns", x.addTurn(4), 2);
        x.clearTurns();
        x.addWalker(0, 0, 1, 0, 1);
        x.walk(0, 3);
        Check.due("steps don't change it", x.addTurn(1), 1);
    }

    private static void placeOfAddTurn() {
        Check.about("8: the place becomes 0");
        ChipPilers x = withThirty();
        x.undo();
        x.addWalker(4, 4, 0, 0, 1);
        x.walk(0, 28);
        Check.due("place 28 of 29", x.count(9), 28);
        Check.due("30th", x.addTurn(1), 30);
        Check.due("place 0", x.count(9), 0);
        x.walk(0, 29);
        Check.due("place 29 of 30", x.count(9), 29);
        Check.due("31st", x.addTurn(1), ChipPilers.FULL);
        Check.due("a refused call leaves the place", x.count(9), 29);
        Check.due("a wrong number", x.addTurn(10), ChipPilers.BAD_VALUE);
        Check.due("leaves it too", x.count(9), 29);
    }

    private static void clearTurnsOfEachSize() {
        Check.about("9: the row of turns as it is at first; returns how many numbers it had");
        ChipPilers x = withThirty();
        x.addWalker(4, 4, 0, 0, 1);
        x.walk(0, 7);
        Check.due("of 30", x.clearTurns(), 30);
        Check.due("one number", x.count(10), 1);
        Check.due("turn 0", x.turn(0), 0);
        Check.due("turn 1", x.turn(1), ChipPilers.NONE);
        Check.due("place 0", x.count(9), 0);
        Check.due("of the first one", x.clearTurns(), 1);
        x.undo();
        x.undo();
        Check.due("30 behind undo", x.count(10), 30);
        Check.due("place 7 behind undo", x.count(9), 7);
        ChipPilers y = new ChipPilers();
        Check.due("of a new object", y.clearTurns(), 1);
        Check.due("an act", y.count(11), 1);
    }

    private static void placeBehindTheEnd() {
        Check.about("Turns: the place moves on (behind the end it is 0 again)");
        ChipPilers one = new ChipPilers();
        one.addWalker(4, 4, 0, 0, 1);
        for (int step = 0; step < 3; step++) {
            one.walk(0, 1);
            Check.due("of one number", one.count(9), 0);
        }
        ChipPilers two = new ChipPilers();
        two.addTurn(5);
        two.addTurn(8);
        two.addWalker(4, 4, 0, 0, 1);
        int[] directions = {1, 0, 1, 0};
        for (int step = 0; step < 4; step++) {
            two.walk(0, 1);
            Check.due("direction of step " + step, two.walker(0, 2), directions[step]);
            Check.due("place of step " + step, two.count(9), (step + 1) % 2);
        }
        ChipPilers x = withThirty();
        x.addWalker(4, 4, 0, 0, 1);
        for (int step = 1; step <= 31; step++) {
            x.walk(0, 1);
            Check.due("of 30, step " + step, x.count(9), step % 30);
        }
    }

    private static void indexOfTurn() {
        Check.about("23: BAD_VALUE if index is negative; NONE if there are not so many");
        ChipPilers x = new ChipPilers();
        for (int index : new int[] {LEAST, -30, -1}) {
            Check.due("turn " + index, x.turn(index), ChipPilers.BAD_VALUE);
        }
        for (int index : new int[] {1, 2, 29, 30, 31, MOST}) {
            Check.due("turn " + index, x.turn(index), ChipPilers.NONE);
        }
        Check.due("turn 0", x.turn(0), 0);
        ChipPilers y = withThirty();
        Check.due("the first of 30", y.turn(0), 1);
        Check.due("the last of 30", y.turn(29), 0);
        Check.due("behind 30", y.turn(30), ChipPilers.NONE);
        Check.due("-1 of 30", y.turn(-1), ChipPilers.BAD_VALUE);
        y.clearTurns();
        Check.due("cleared numbers are gone", y.turn(29), ChipPilers.NONE);
        Check.due("cleared numbers are gone", y.turn(1), ChipPilers.NONE);
    }

    private static void whatOfWalker() {
        Check.about("19: what: 0 to 8; UNKNOWN; BAD_VALUE");
        ChipPilers x = new ChipPilers();
        x.addWalker(7, 6, 3, 2, 8);
        int[] due = {7, 6, 3, 0, 8, 2, 0, 0, 0};
        for (int what = 0; what <= 8; what++) {
            Check.due("what " + what, x.walker(0, what), due[what]);
        }
        for (int what : new int[] {LEAST, -1, 9, 10, MOST}) {
            Check.due("what " + what, x.walker(0, what), ChipPilers.BAD_VALUE);
            Check.due("what " + what + " of none", x.walker(1, what), ChipPilers.UNKNOWN);
        }
    }

    private static void chipsPickedUpAndDropped() {
        Check.about("19: the chips that it picked up, those that it dropped (both by plans, too, and by empty())");
        ChipPilers x = new ChipPilers();
        x.addWalker(0, 0, 1, 1, 9);
        x.put(0, 1, 2);
        x.put(0, 2, 3);
        x.walk(0, 1);
        Check.due("picked up by a step", x.walker(0, 7), 2);
        x.walk(0, 1);
        Check.due("dropped by a step", x.walker(0, 8), 2);
        Check.runText(x, "g4");
        Check.due("picked up by a plan", x.walker(0, 7), 6);
        Check.runText(x, "d3");
        Check.due("dropped by a plan", x.walker(0, 8), 5);
        Check.due("empty", x.empty(0), 5);
        Check.due("dropped by empty()", x.walker(0, 8), 6);
        Check.due("empty again", x.empty(0), ChipPilers.NONE);
        Check.due("picked up stays", x.walker(0, 7), 6);
        x.put(0, 3, 1);
        Check.runText(x, "e");
        Check.due("picked up by a plan's step", x.walker(0, 7), 7);
    }
}
