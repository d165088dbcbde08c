import java.util.List;

/** The edges of heaps, of merging and of promises 20, 21, 22 and 24: a test for each sentence that names one. */
public final class HeapsEdgesTest {
    private static final int LEAST = Integer.MIN_VALUE;
    private static final int MOST = Integer.MAX_VALUE;

    public static void main(String[] args) {
        cellsNextToEachOther();
        heapsOfEachShape();
        noHeapRoundTheEdge();
        cellsWithAtLeastOneChip();
        longHeaps();
        greatestBoardFull();
        mostHeaps();
        orderBySize();
        orderByCells();
        orderByFirstCell();
        orderFollowsEachChange();
        noneWithoutChips();
        placeAndWhatOfHeap();
        cellOfHeapOf();
        heapOfWithoutChips();
        mergesOfOneStep();
        splitsOfOneStep();
        mergesAndSplitsOfSteps();
        onlyStepsCount();
        heapsOfRoundsUntil();
        roundsUntilWithoutWalkers();
        roundsUntilUpTo200();
        roundsUntilAtMost();
        roundsUntilChangesNothing();
        whatOfCount();
        chipsOnTheBoardAndInPockets();
        Check.end();
    }

    private static void cellsNextToEachOther() {
        Check.about("Heaps: next to each other (north, east, south or west)");
        for (int row = 0; row <= 4; row++) {
            for (int column = 0; column <= 4; column++) {
                ChipPilers x = new ChipPilers();
                x.put(2, 2, 1);
                x.put(row, column, 1);
                int apart = Math.abs(row - 2) + Math.abs(column - 2);
                Check.due("2 2 and " + row + " " + column, x.count(5), apart <= 1 ? 1 : 2);
            }
        }
    }

    private static void heapsOfEachShape() {
        Check.about("Heaps: a heap is a set of cells (whichever ways lead from its first cell to the others)");
        String[][] shapes = {{"1.1", "111"}, {"..1", "111", "1.."}, {"1..", "111", "..1"}, {"11", ".1", "11"},
            {"11", "1.", "11"}, {"..1", ".11", "11."}, {"1.1", "1.1", "111"}, {"111", "1.1", "1.1"}, {".1.", "111", ".1."}};
        for (String[] shape : shapes) {
            ChipPilers x = new ChipPilers();
            int cells = 0;
            for (int row = 0; row < shape.length; row++) {
                for (int column = 0; column < shape[row].length(); column++) {
                    if (shape[row].charAt(column) == '1') {
                        cells++;
                        x.put(row, column, 10 - cells);
                    }
                }
            }
            String call = String.join("/", shape);
            Check.due("heaps of " + call, x.count(5), 1);
            Check.due("cells of " + call, x.heap(0, 1), cells);
            Check.due("most chips of a cell of " + call, x.heap(0, 4), 9);
        }
    }

    private static void noHeapRoundTheEdge() {
        Check.about("Board: walls at its edges, so no cells are next to each other round them");
        for (int[] size : new int[][] {{3, 3}, {16, 16}, {3, 16}, {16, 3}, {8, 8}}) {
            ChipPilers x = new ChipPilers();
            x.reset(size[0], size[1]);
            x.put(0, 0, 1);
            x.put(0, size[1] - 1, 1);
            x.put(size[0] - 1, 0, 1);
            x.put(size[0] - 1, size[1] - 1, 1);
            Check.due("four corners", x.count(5), 4);
            x.reset(size[0], size[1]);
            x.put(0, size[1] - 1, 1);
            x.put(1, 0, 1);
            Check.due("the end of a row and the beginning of the next", x.count(5), 2);
        }
        ChipPilers great = new ChipPilers();
        great.reset(16, 16);
        great.put(0, 0, 1);
        great.put(1, 0, 1);
        great.put(0, 15, 1);
        Check.due("the first column and the end of the first row", great.count(5), 2);
        ChipPilers least = new ChipPilers();
        least.reset(2, 2);
        least.put(0, 0, 1);
        least.put(1, 1, 1);
        Check.due("corners of the least board", least.count(5), 2);
        least.put(0, 1, 1);
        Check.due("three cells of it", least.count(5), 1);
    }

    private static void cellsWithAtLeastOneChip() {
        Check.about("Heaps: cells with at least one chip");
        ChipPilers x = new ChipPilers();
        x.put(4, 4, 0);
        Check.due("no chip", x.count(5), 0);
        x.put(4, 4, 1);
        Check.due("one chip", x.count(5), 1);
        x.put(4, 6, 99);
        x.put(4, 5, 1);
        Check.due("one chip joins two", x.count(5), 1);
        x.put(4, 5, 0);
        Check.due("no chip parts them", x.count(5), 2);
    }

    private static void longHeaps() {
        Check.about("Heaps: belong to one heap (a way over the whole board)");
        ChipPilers x = new ChipPilers();
        x.reset(16, 16);
        int cells = 0;
        for (int row = 0; row < 16; row += 2) {
            for (int column = 0; column < 16; column++) {
                x.put(row, column, 1);
                cells++;
            }
            if (row < 14) {
                x.put(row + 1, row % 4 == 0 ? 15 : 0, 1);
                cells++;
            }
        }
        Check.due("a snake", x.count(5), 1);
        Check.due("its cells", x.heap(0, 1), cells);
        Check.due("its head", x.heapOf(0, 0), 0);
        Check.due("its tail", x.heapOf(14, 0), 0);
        x.put(1, 15, 0);
        Check.due("cut once", x.count(5), 2);
        Check.due("the head is the smaller one", x.heapOf(0, 0), 1);
        x.put(13, 15, 0);
        Check.due("cut twice", x.count(5), 3);
    }

    private static void greatestBoardFull() {
        Check.about("Heaps: its size is the number of its chips (at most 256 cells of 99)");
        ChipPilers x = new ChipPilers();
        x.reset(16, 16);
        for (int times = 0; times < 99; times++) {
            x.strew(0, 0, 1);
        }
        Check.due("size", x.heap(0, 0), 25344);
        Check.due("cells", x.heap(0, 1), 256);
        Check.due("row", x.heap(0, 2), 0);
        Check.due("column", x.heap(0, 3), 0);
        Check.due("most chips", x.heap(0, 4), 99);
        Check.due("chips on the board", x.count(3), 25344);
        Check.due("keep", x.keep(0), 25344);
        Check.due("the last cell's heap", x.heapOf(15, 15), 0);
    }

    private static void mostHeaps() {
        Check.about("20: a place in the order of the heaps, from 0 (at most 128 heaps)");
        ChipPilers x = new ChipPilers();
        x.reset(16, 16);
        x.strew(1, 1, 2);
        Check.due("heaps", x.count(5), 128);
        for (int place = 0; place < 128; place++) {
            Check.due("row of " + place, x.heap(place, 2), place / 8);
            Check.due("column of " + place, x.heap(place, 3), place % 8 * 2 + place / 8 % 2);
        }
        Check.due("heap 128", x.heap(128, 0), ChipPilers.NONE);
        x.put(15, 15, 2);
        Check.due("the last cell comes first", x.heapOf(15, 15), 0);
        Check.due("the first one is second", x.heapOf(0, 0), 1);
    }

    private static void orderBySize() {
        Check.about("Heaps: greater sizes first");
        ChipPilers x = new ChipPilers();
        x.put(0, 0, 4);
        x.put(2, 0, 5);
        x.put(4, 0, 3);
        x.put(4, 1, 3);
        Check.due("6 of two cells", x.heapOf(4, 1), 0);
        Check.due("5", x.heapOf(2, 0), 1);
        Check.due("4", x.heapOf(0, 0), 2);
        int[] sizes = {6, 5, 4};
        for (int place = 0; place < 3; place++) {
            Check.due("size of " + place, x.heap(place, 0), sizes[place]);
        }
    }

    private static void orderByCells() {
        Check.about("Heaps: then fewer cells");
        ChipPilers x = new ChipPilers();
        x.put(0, 0, 1);
        x.put(0, 1, 1);
        x.put(0, 2, 4);
        x.put(2, 0, 5);
        x.put(2, 1, 1);
        x.put(4, 0, 6);
        Check.due("one cell", x.heapOf(4, 0), 0);
        Check.due("two cells", x.heapOf(2, 1), 1);
        Check.due("three cells", x.heapOf(0, 0), 2);
        for (int place = 0; place < 3; place++) {
            Check.due("size of " + place, x.heap(place, 0), 6);
            Check.due("cells of " + place, x.heap(place, 1), place + 1);
        }
    }

    private static void orderByFirstCell() {
        Check.about("Heaps: then the one with the cell that comes first (by rows, then columns)");
        ChipPilers x = new ChipPilers();
        x.put(7, 0, 2);
        x.put(0, 7, 2);
        x.put(0, 5, 2);
        x.put(1, 0, 2);
        int[][] cells = {{0, 5}, {0, 7}, {1, 0}, {7, 0}};
        for (int place = 0; place < 4; place++) {
            Check.due("row of " + place, x.heap(place, 2), cells[place][0]);
            Check.due("column of " + place, x.heap(place, 3), cells[place][1]);
            Check.due("place of its cell", x.heapOf(cells[place][0], cells[place][1]), place);
        }
        ChipPilers y = new ChipPilers();
        y.put(2, 0, 1);
        y.put(2, 1, 1);
        y.put(1, 1, 1);
        y.put(1, 3, 1);
        y.put(1, 4, 1);
        y.put(2, 4, 1);
        Check.due("the first cell isn't the one most to the west", y.heap(0, 3), 1);
        Check.due("its row", y.heap(0, 2), 1);
        Check.due("the other one", y.heapOf(2, 4), 1);
    }

    private static void orderFollowsEachChange() {
        Check.about("Heaps: the order is that of the chips as they are");
        ChipPilers x = new ChipPilers();
        x.put(0, 0, 5);
        x.put(7, 7, 5);
        Check.due("the first cell", x.heapOf(0, 0), 0);
        x.put(7, 7, 6);
        Check.due("by put", x.heapOf(7, 7), 0);
        x.addWalker(7, 7, 0, 0, 9);
        Check.runText(x, "g2");
        Check.due("by a plan", x.heapOf(7, 7), 1);
        Check.due("its size", x.heap(1, 0), 4);
        x.empty(0);
        Check.due("by empty", x.heapOf(7, 7), 0);
        x.undo();
        Check.due("by undo", x.heapOf(7, 7), 1);
        x.keep(0);
        x.put(0, 0, 3);
        Check.due("by put again", x.heapOf(0, 0), 1);
        x.restore(0);
        Check.due("by restore", x.heapOf(0, 0), 0);
        x.strew(1, 2, 7);
        Check.due("by strew: of 0 0", x.heap(0, 0), x.chips(0, 0));
        x.reset(8, 8);
        Check.due("by reset", x.heap(0, 0), ChipPilers.NONE);
    }

    private static void noneWithoutChips() {
        Check.about("Heaps: there is none without chips");
        ChipPilers x = new ChipPilers();
        Check.due("a new object", x.heap(0, 0), ChipPilers.NONE);
        Check.due("heaps", x.count(5), 0);
        x.put(3, 3, 9);
        x.put(3, 3, 0);
        Check.due("all chips gone", x.heap(0, 0), ChipPilers.NONE);
        x.addWalker(0, 0, 1, 2, 9);
        Check.due("a sweeper finds nothing", x.walk(0, 5), 0);
        Check.due("no rounds are needed", x.roundsUntil(0), 0);
    }

    private static void placeAndWhatOfHeap() {
        Check.about("20: BAD_VALUE if place is negative or what is out of range; NONE if there are not so many heaps");
        ChipPilers x = new ChipPilers();
        x.put(2, 5, 7);
        x.put(2, 6, 9);
        x.put(5, 1, 3);
        int[][] due = {{16, 2, 2, 5, 9}, {3, 1, 5, 1, 3}};
        for (int place = 0; place < 2; place++) {
            for (int what = 0; what <= 4; what++) {
                Check.due("heap " + place + " " + what, x.heap(place, what), due[place][what]);
            }
        }
        for (int what : new int[] {LEAST, -1, 5, 6, MOST}) {
            Check.due("heap 0 " + what, x.heap(0, what), ChipPilers.BAD_VALUE);
            Check.due("heap 2 " + what, x.heap(2, what), ChipPilers.BAD_VALUE);
            Check.due("heap -1 " + what, x.heap(-1, what), ChipPilers.BAD_VALUE);
        }
        for (int place : new int[] {LEAST, -2, -1}) {
            Check.due("heap " + place, x.heap(place, 0), ChipPilers.BAD_VALUE);
        }
        for (int place : new int[] {2, 3, 127, 128, 129, 256, MOST}) {
            Check.due("heap " + place, x.heap(place, 4), ChipPilers.NONE);
        }
    }

    private static void cellOfHeapOf() {
        Check.about("21: row: a row, column: a column");
        for (int[] size : new int[][] {{2, 2}, {16, 16}, {2, 16}, {16, 2}}) {
            ChipPilers x = new ChipPilers();
            x.reset(size[0], size[1]);
            x.strew(0, 0, 1);
            Check.due("the first cell", x.heapOf(0, 0), 0);
            Check.due("the last cell", x.heapOf(size[0] - 1, size[1] - 1), 0);
            int[][] unknown = {{-1, 0}, {0, -1}, {size[0], 0}, {0, size[1]}, {size[0], size[1]}, {LEAST, 0}, {MOST, 0},
                {0, LEAST}, {0, MOST}, {1, -1}, {-1, 16}};
            for (int[] cell : unknown) {
                Check.due("heapOf " + cell[0] + " " + cell[1], x.heapOf(cell[0], cell[1]), ChipPilers.UNKNOWN);
            }
        }
    }

    private static void heapOfWithoutChips() {
        Check.about("21: NONE if it has no chips");
        ChipPilers x = new ChipPilers();
        Check.due("a new object", x.heapOf(0, 0), ChipPilers.NONE);
        x.put(0, 0, 1);
        Check.due("one chip", x.heapOf(0, 0), 0);
        Check.due("the cell beside", x.heapOf(0, 1), ChipPilers.NONE);
        x.put(0, 0, 0);
        Check.due("no chip again", x.heapOf(0, 0), ChipPilers.NONE);
        Check.due("UNKNOWN ahead of NONE", x.heapOf(8, 0), ChipPilers.UNKNOWN);
    }

    private static void mergesOfOneStep() {
        Check.about("Merging: if it is less, the difference is added to the merges (a heap that goes as a merge)");
        ChipPilers x = new ChipPilers();
        x.addWalker(0, 0, 1, 1, 9);
        x.put(0, 1, 2);
        x.walk(0, 1);
        Check.due("a heap of 2 goes", x.count(6), 1);
        Check.due("no split", x.count(7), 0);
        ChipPilers y = new ChipPilers();
        y.addWalker(0, 0, 1, 0, 9);
        y.put(0, 1, 2);
        y.walk(0, 1);
        Check.due("one of two chips goes, no merge", y.count(6), 0);
        ChipPilers z = new ChipPilers();
        z.addWalker(0, 0, 1, 0, 9);
        z.put(0, 1, 1);
        z.put(0, 2, 1);
        z.walk(0, 1);
        Check.due("a cell at the end of a heap goes, no merge", z.count(6), 0);
        Check.due("no split either", z.count(7), 0);
    }

    private static void splitsOfOneStep() {
        Check.about("Merging: if it is greater, (the difference is added) to the splits");
        int[][] arms = {{3, 4}, {5, 4}, {4, 3}, {4, 5}};
        for (int count = 2; count <= 4; count++) {
            ChipPilers x = new ChipPilers();
            x.addWalker(4, 3, 1, 0, 1);
            x.put(4, 4, 1);
            for (int arm = 0; arm < count; arm++) {
                x.put(arms[arm][0], arms[arm][1], 1);
            }
            x.walk(0, 1);
            Check.due("heaps of " + count + " arms", x.count(5), count);
            Check.due("splits of " + count + " arms", x.count(7), count - 1);
            Check.due("merges of " + count + " arms", x.count(6), 0);
        }
    }

    private static void mergesAndSplitsOfSteps() {
        Check.about("Merging: behind each step (not behind all of them)");
        ChipPilers x = new ChipPilers();
        x.addWalker(0, 0, 1, 1, 9);
        x.put(0, 1, 1);
        x.put(0, 3, 1);
        x.put(0, 4, 1);
        x.put(1, 3, 1);
        x.walk(0, 3);
        Check.due("heaps as many as ahead", x.count(5), 2);
        Check.due("a merge", x.count(6), 1);
        Check.due("a split", x.count(7), 1);
        ChipPilers y = new ChipPilers();
        y.addWalker(0, 0, 1, 1, 9);
        y.addWalker(4, 0, 1, 1, 9);
        y.put(0, 1, 1);
        y.put(4, 1, 1);
        y.put(4, 2, 1);
        y.put(3, 1, 1);
        y.rounds(1);
        Check.due("in a round: a merge", y.count(6), 1);
        Check.due("in a round: a split", y.count(7), 1);
    }

    private static void onlyStepsCount() {
        Check.about("Merging: only steps count for this");
        ChipPilers x = new ChipPilers();
        x.addWalker(4, 4, 0, 0, 9);
        x.put(4, 3, 1);
        x.put(4, 5, 1);
        x.put(4, 4, 1);
        Check.runText(x, "g");
        Check.runText(x, "d");
        Check.runText(x, "g");
        x.empty(0);
        x.put(4, 4, 0);
        x.strew(1, 1, 2);
        x.strew(0, 0, 1);
        x.keep(0);
        x.reset(8, 8);
        x.restore(0);
        x.undo();
        x.undo();
        x.roundsUntil(0);
        Check.due("merges", x.count(6), 0);
        Check.due("splits", x.count(7), 0);
    }

    private static void heapsOfRoundsUntil() {
        Check.about("22: heaps: 0 to 256");
        ChipPilers x = new ChipPilers();
        for (int heaps : new int[] {LEAST, -1, 257, 258, MOST}) {
            Check.due("roundsUntil " + heaps, x.roundsUntil(heaps), ChipPilers.BAD_VALUE);
        }
        Check.due("0", x.roundsUntil(0), 0);
        Check.due("256", x.roundsUntil(256), 0);
        x.put(0, 0, 1);
        Check.due("BAD_VALUE ahead of NONE", x.roundsUntil(-1), ChipPilers.BAD_VALUE);
    }

    private static void roundsUntilWithoutWalkers() {
        Check.about("22: NONE if there are no walkers and more heaps");
        ChipPilers x = new ChipPilers();
        x.reset(16, 16);
        x.strew(1, 1, 2);
        Check.due("less than there are", x.roundsUntil(127), ChipPilers.NONE);
        Check.due("none", x.roundsUntil(0), ChipPilers.NONE);
        Check.due("as many as there are", x.roundsUntil(128), 0);
        Check.due("more", x.roundsUntil(129), 0);
    }

    /** A sweeper goes round a board of two rows, 32 steps a lap, and takes the last of 7 chips in its seventh lap. */
    private static ChipPilers goneIn(int rounds) {
        ChipPilers x = new ChipPilers();
        x.reset(2, 16);
        x.addWalker(0, 0, 1, 2, 9);
        x.put(1, 0, 50);
        x.put(0, rounds - 192, 7);
        return x;
    }

    private static void roundsUntilUpTo200() {
        Check.about("22: the rounds, 0 to 200; NONE if it would not come to it within 200 rounds");
        Check.due("199", goneIn(199).roundsUntil(1), 199);
        Check.due("200", goneIn(200).roundsUntil(1), 200);
        Check.due("201", goneIn(201).roundsUntil(1), ChipPilers.NONE);
        Check.due("never", goneIn(200).roundsUntil(0), ChipPilers.NONE);
        ChipPilers x = goneIn(201);
        x.rounds(1);
        Check.due("201, a round later", x.roundsUntil(1), 200);
        ChipPilers y = new ChipPilers();
        y.addWalker(0, 0, 1, 0, 1);
        y.put(0, 1, 1);
        Check.due("1", y.roundsUntil(0), 1);
    }

    private static void roundsUntilAtMost() {
        Check.about("22: until there is at most a number of heaps");
        ChipPilers x = new ChipPilers();
        x.addWalker(0, 0, 1, 1, 9);
        x.put(0, 1, 1);
        x.put(0, 3, 1);
        x.put(0, 5, 1);
        int[] rounds = {5, 3, 1, 0, 0};
        for (int heaps = 0; heaps < rounds.length; heaps++) {
            Check.due("roundsUntil " + heaps, x.roundsUntil(heaps), rounds[heaps]);
        }
        ChipPilers y = new ChipPilers();
        y.addWalker(0, 0, 1, 1, 9);
        y.addWalker(2, 0, 1, 1, 9);
        y.put(0, 1, 1);
        y.put(2, 1, 1);
        y.put(4, 1, 1);
        Check.due("two go in one round", y.roundsUntil(2), 1);
        Check.due("down to one", y.roundsUntil(1), 1);
    }

    private static void roundsUntilChangesNothing() {
        Check.about("22: tells how many it would take (nothing changes)");
        ChipPilers x = new ChipPilers();
        x.reset(5, 5);
        x.addTurn(0);
        x.addTurn(5);
        x.addTurn(7);
        x.addWalker(0, 0, 1, 1, 9);
        x.addWalker(4, 4, 3, 2, 3);
        x.strew(2, 3, 4);
        x.walk(0, 2);
        Check.text(x, "r3");
        List<Integer> before = Told.state(x);
        int rounds = x.roundsUntil(1);
        Told.same("behind roundsUntil", Told.state(x), before);
        Check.due("states", x.count(11), 5);
        Check.due("text", x.count(12), 2);
        Check.due("so it is with undo", x.undo(), 4);
        Check.due("it comes to it", rounds > 0 ? 1 : 0, 1);
        x.walk(0, 2);
        int heaps = x.count(5);
        for (int round = 0; round < rounds; round++) {
            Check.due("more than 1 ahead of round " + round, heaps > 1 ? 1 : 0, 1);
            heaps = x.rounds(1);
        }
        Check.due("1 then", heaps, 1);
        ChipPilers never = goneIn(201);
        before = Told.state(never);
        Check.due("never", never.roundsUntil(1), ChipPilers.NONE);
        Told.same("behind 200 rounds", Told.state(never), before);
        Check.due("no act", never.count(11), 4);
    }

    private static void whatOfCount() {
        Check.about("24: what: 0 to 12; BAD_VALUE");
        ChipPilers x = new ChipPilers();
        for (int what : new int[] {LEAST, -1, 13, 14, MOST}) {
            Check.due("count " + what, x.count(what), ChipPilers.BAD_VALUE);
        }
        int[] due = {8, 8, 0, 0, 0, 0, 0, 0, 0, 0, 1, 0, 0};
        for (int what = 0; what <= 12; what++) {
            Check.due("count " + what, x.count(what), due[what]);
        }
    }

    private static void chipsOnTheBoardAndInPockets() {
        Check.about("24: 3 for chips on the board, 4 for chips in pockets, 8 for all steps");
        ChipPilers x = new ChipPilers();
        for (int number = 0; number < 8; number++) {
            x.put(number, 0, 99);
            x.addWalker(number, 0, 1, 0, 9);
        }
        Check.runText(x, "g9#1g9#2g9#3g9#4g9#5g9#6g9#7g9");
        Check.due("in pockets", x.count(4), 72);
        Check.due("on the board", x.count(3), 720);
        x.rounds(1);
        Check.due("all steps", x.count(8), 8);
    }
}
