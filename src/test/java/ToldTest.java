/** Promises 18 to 24: chips, walker, heap, heapOf, roundsUntil, turn, count. */
public final class ToldTest {
    public static void main(String[] args) {
        constants();
        chips();
        walkers();
        heapsInOrder();
        heapsOfBentShapes();
        heapsWrongly();
        heapsOfCells();
        manyHeaps();
        roundsUntil();
        roundsUntilEdges();
        turns();
        counts();
        Check.end();
    }

    private static void constants() {
        Check.due("UNKNOWN", ChipPilers.UNKNOWN, -1);
        Check.due("BAD_VALUE", ChipPilers.BAD_VALUE, -2);
        Check.due("FULL", ChipPilers.FULL, -3);
        Check.due("NOT_POSSIBLE", ChipPilers.NOT_POSSIBLE, -4);
        Check.due("NONE", ChipPilers.NONE, -5);
    }

    private static void chips() {
        ChipPilers x = new ChipPilers();
        x.reset(2, 3);
        x.put(1, 2, 42);
        Check.due("there", x.chips(1, 2), 42);
        Check.due("none", x.chips(0, 2), 0);
        Check.due("row -1", x.chips(-1, 0), ChipPilers.UNKNOWN);
        Check.due("row 2", x.chips(2, 0), ChipPilers.UNKNOWN);
        Check.due("column -1", x.chips(1, -1), ChipPilers.UNKNOWN);
        Check.due("column 3", x.chips(0, 3), ChipPilers.UNKNOWN);
        Check.due("far out", x.chips(Integer.MIN_VALUE, Integer.MAX_VALUE), ChipPilers.UNKNOWN);
        Check.due("no act", x.count(11), 2);
    }

    private static void walkers() {
        ChipPilers x = new ChipPilers();
        Check.due("no walker", x.walker(0, 9), ChipPilers.UNKNOWN);
        x.addWalker(2, 3, 1, 0, 6);
        x.put(2, 4, 5);
        x.walk(0, 1);
        x.setSort(0, 1);
        x.walk(0, 1);
        int[] due = {2, 5, 1, 1, 6, 1, 2, 1, 0};
        for (int what = 0; what < due.length; what++) {
            Check.due("walker " + what, x.walker(0, what), due[what]);
        }
        Check.due("what 9", x.walker(0, 9), ChipPilers.BAD_VALUE);
        Check.due("what -1", x.walker(0, -1), ChipPilers.BAD_VALUE);
        Check.due("walker 1", x.walker(1, 0), ChipPilers.UNKNOWN);
        Check.due("walker -1", x.walker(-1, 0), ChipPilers.UNKNOWN);
        Check.due("UNKNOWN ahead of BAD_VALUE", x.walker(8, 99), ChipPilers.UNKNOWN);
        x.empty(0);
        Check.due("dropped by empty", x.walker(0, 8), 1);
        Check.runText(x, "gg");
        Check.due("picked up by a plan", x.walker(0, 7), 2);
        Check.runText(x, "d");
        Check.due("dropped by a plan", x.walker(0, 8), 2);
    }

    private static void heapsInOrder() {
        ChipPilers x = new ChipPilers();
        x.put(7, 0, 2);
        x.put(7, 1, 3);
        x.put(6, 1, 1);
        x.put(0, 0, 3);
        x.put(0, 1, 3);
        x.put(3, 3, 6);
        x.put(3, 5, 6);
        x.put(5, 6, 9);
        x.put(5, 7, 1);
        Check.due("heaps", x.count(5), 5);
        // size, cells, row, column, most, by the place
        int[][] due = {{10, 2, 5, 6, 9}, {6, 1, 3, 3, 6}, {6, 1, 3, 5, 6}, {6, 2, 0, 0, 3}, {6, 3, 6, 1, 3}};
        for (int place = 0; place < due.length; place++) {
            for (int what = 0; what < 5; what++) {
                Check.due("heap " + place + " " + what, x.heap(place, what), due[place][what]);
            }
        }
        Check.due("no sixth", x.heap(5, 0), ChipPilers.NONE);
        x.put(3, 4, 1);
        Check.due("two become one", x.count(5), 4);
        Check.due("its size", x.heap(0, 0), 13);
        Check.due("its cells", x.heap(0, 1), 3);
        x.put(3, 5, 1);
        Check.due("its size shrinks", x.heap(1, 0), 8);
        Check.due("the most of it", x.heap(1, 4), 6);
        x.put(3, 4, 0);
        Check.due("one becomes two", x.count(5), 5);
        Check.due("the least", x.heap(4, 0), 1);
        ChipPilers y = new ChipPilers();
        y.put(2, 2, 1);
        y.put(3, 3, 1);
        y.put(0, 7, 1);
        y.put(1, 0, 1);
        Check.due("no heap by corners or round the edge", y.count(5), 4);
        Check.due("first row of the first", y.heap(0, 2), 0);
        Check.due("first column of the first", y.heap(0, 3), 7);
    }

    private static void heapsOfBentShapes() {
        ChipPilers x = new ChipPilers();
        x.put(0, 0, 5);
        x.put(1, 0, 1);
        x.put(1, 1, 1);
        x.put(1, 2, 1);
        x.put(0, 2, 1);
        Check.due("by south, east and north", x.count(5), 1);
        Check.due("five cells", x.heap(0, 1), 5);
        Check.due("the most is in the first cell", x.heap(0, 4), 5);
        ChipPilers y = new ChipPilers();
        y.put(0, 4, 1);
        y.put(1, 4, 1);
        y.put(1, 3, 1);
        y.put(1, 2, 1);
        y.put(0, 2, 1);
        y.put(0, 1, 1);
        Check.due("by north, west and south", y.count(5), 1);
        Check.due("its first cell", y.heap(0, 3), 1);
        ChipPilers z = new ChipPilers();
        z.reset(16, 16);
        z.put(0, 0, 1);
        z.put(1, 0, 1);
        z.put(0, 15, 1);
        z.put(15, 0, 1);
        Check.due("the greatest board isn't round", z.count(5), 3);
    }

    private static void heapsWrongly() {
        ChipPilers x = new ChipPilers();
        Check.due("place -1", x.heap(-1, 0), ChipPilers.BAD_VALUE);
        Check.due("what -1", x.heap(0, -1), ChipPilers.BAD_VALUE);
        Check.due("what 5", x.heap(0, 5), ChipPilers.BAD_VALUE);
        Check.due("BAD_VALUE ahead of NONE", x.heap(99, 5), ChipPilers.BAD_VALUE);
        Check.due("no heap", x.heap(0, 4), ChipPilers.NONE);
        Check.due("far out", x.heap(Integer.MAX_VALUE, 0), ChipPilers.NONE);
    }

    private static void heapsOfCells() {
        ChipPilers x = new ChipPilers();
        x.reset(3, 3);
        x.put(0, 0, 1);
        x.put(2, 1, 1);
        x.put(2, 2, 1);
        Check.due("of the first cell", x.heapOf(0, 0), 1);
        Check.due("of the last cell", x.heapOf(2, 2), 0);
        Check.due("of its neighbour", x.heapOf(2, 1), 0);
        Check.due("of none", x.heapOf(1, 1), ChipPilers.NONE);
        Check.due("row -1", x.heapOf(-1, 0), ChipPilers.UNKNOWN);
        Check.due("row 3", x.heapOf(3, 0), ChipPilers.UNKNOWN);
        Check.due("column -1", x.heapOf(0, -1), ChipPilers.UNKNOWN);
        Check.due("column 3", x.heapOf(0, 3), ChipPilers.UNKNOWN);
        x.put(0, 0, 3);
        Check.due("greater now", x.heapOf(0, 0), 0);
        Check.due("smaller now", x.heapOf(2, 1), 1);
    }

    private static void manyHeaps() {
        ChipPilers x = new ChipPilers();
        x.reset(16, 16);
        Check.due("like a chess board", x.strew(1, 1, 2), 128);
        Check.due("heaps", x.count(5), 128);
        Check.due("last row", x.heap(127, 2), 15);
        Check.due("last column", x.heap(127, 3), 15);
        Check.due("no more", x.heap(128, 0), ChipPilers.NONE);
        Check.due("place of the last", x.heapOf(15, 15), 127);
        x.strew(0, 0, 1);
        Check.due("one", x.count(5), 1);
        Check.due("of all cells", x.heap(0, 1), 256);
        Check.due("and chips", x.heap(0, 0), 384);
        Check.due("more rounds than are looked at", x.roundsUntil(0), ChipPilers.NONE);
        for (int times = 0; times < 98; times++) {
            x.strew(0, 0, 1);
        }
        Check.due("all full", x.heap(0, 0), 25344);
        Check.due("none comes", x.strew(0, 0, 1), ChipPilers.NONE);
    }

    private static void roundsUntil() {
        ChipPilers x = new ChipPilers();
        x.addWalker(0, 0, 1, 1, 9);
        x.addTurn(4);
        x.addTurn(3);
        x.put(0, 2, 1);
        x.put(0, 4, 1);
        x.put(0, 6, 1);
        Check.due("3 now", x.roundsUntil(3), 0);
        Check.due("more than there are", x.roundsUntil(256), 0);
        Check.due("2", x.roundsUntil(2), 2);
        Check.due("1", x.roundsUntil(1), 4);
        Check.due("0", x.roundsUntil(0), 6);
        int[] counts = {8, 8, 1, 3, 0, 3, 0, 0, 0, 0, 2, 5, 0};
        for (int what = 0; what < counts.length; what++) {
            Check.due("nothing changes: count " + what, x.count(what), counts[what]);
        }
        Check.due("nothing changes: walker", x.walker(0, 1), 0);
        Check.due("nothing changes: chips", x.chips(0, 2), 1);
        Check.due("the same again", x.roundsUntil(0), 6);
        Check.due("so it comes", x.rounds(6), 0);
        Check.due("none now", x.roundsUntil(0), 0);
    }

    private static void roundsUntilEdges() {
        ChipPilers x = new ChipPilers();
        Check.due("-1", x.roundsUntil(-1), ChipPilers.BAD_VALUE);
        Check.due("257", x.roundsUntil(257), ChipPilers.BAD_VALUE);
        Check.due("no walkers, no heaps", x.roundsUntil(0), 0);
        x.put(4, 4, 1);
        Check.due("no walkers, more heaps", x.roundsUntil(0), ChipPilers.NONE);
        Check.due("no walkers, not more heaps", x.roundsUntil(1), 0);
        x.addWalker(0, 0, 1, 0, 1);
        Check.due("it never comes there", x.roundsUntil(0), ChipPilers.NONE);
        Check.due("200 rounds", roundsOf(200), 200);
        Check.due("201 rounds", roundsOf(201), ChipPilers.NONE);
        ChipPilers y = new ChipPilers();
        y.addWalker(0, 0, 1, 1, 9);
        y.addWalker(2, 1, 1, 1, 9);
        y.put(0, 1, 1);
        y.put(2, 2, 1);
        y.put(1, 2, 1);
        y.put(3, 2, 1);
        y.put(2, 3, 1);
        Check.due("heaps are looked at behind whole rounds", y.roundsUntil(1), ChipPilers.NONE);
    }

    /** A sweeper goes round a board of two rows, 32 steps a lap, and takes the last of 7 chips in its seventh lap. */
    private static int roundsOf(int rounds) {
        ChipPilers x = new ChipPilers();
        x.reset(2, 16);
        x.addWalker(0, 0, 1, 2, 9);
        x.put(1, 0, 50);
        x.put(0, rounds - 192, 7);
        return x.roundsUntil(1);
    }

    private static void turns() {
        ChipPilers x = new ChipPilers();
        Check.due("at first", x.turn(0), 0);
        Check.due("-1", x.turn(-1), ChipPilers.BAD_VALUE);
        Check.due("1", x.turn(1), ChipPilers.NONE);
        x.addTurn(9);
        x.addTurn(1);
        Check.due("turn 0", x.turn(0), 9);
        Check.due("turn 1", x.turn(1), 1);
        Check.due("turn 2", x.turn(2), ChipPilers.NONE);
        Check.due("turn 30", x.turn(30), ChipPilers.NONE);
        Check.due("far out", x.turn(Integer.MAX_VALUE), ChipPilers.NONE);
        Check.due("far out below", x.turn(Integer.MIN_VALUE), ChipPilers.BAD_VALUE);
        Check.due("the place stays", x.count(9), 0);
    }

    private static void counts() {
        ChipPilers x = new ChipPilers();
        x.reset(5, 6);
        x.addTurn(0);
        x.addTurn(0);
        x.addTurn(0);
        x.addWalker(0, 0, 1, 1, 9);
        x.addWalker(4, 5, 3, 0, 9);
        x.put(0, 1, 2);
        x.put(4, 4, 3);
        x.put(2, 2, 1);
        x.rounds(1);
        x.walk(0, 1);
        Check.text(x, "r2");
        int[] due = {5, 6, 2, 3, 3, 2, 1, 0, 3, 0, 3, 5, 2};
        for (int what = 0; what < due.length; what++) {
            Check.due("count " + what, x.count(what), due[what]);
        }
        Check.due("count -1", x.count(-1), ChipPilers.BAD_VALUE);
        Check.due("count 13", x.count(13), ChipPilers.BAD_VALUE);
        Check.due("far out", x.count(Integer.MAX_VALUE), ChipPilers.BAD_VALUE);
    }
}
