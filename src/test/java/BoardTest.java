/** Promises 1 to 4: a new object, reset, put, strew. */
public final class BoardTest {
    public static void main(String[] args) {
        newObject();
        resetSizes();
        resetClears();
        resetKeepsTheRest();
        puts();
        strews();
        strewsWrongly();
        Check.end();
    }

    private static void newObject() {
        ChipPilers x = new ChipPilers();
        int[] counts = {8, 8, 0, 0, 0, 0, 0, 0, 0, 0, 1, 0, 0};
        for (int what = 0; what < counts.length; what++) {
            Check.due("new: count " + what, x.count(what), counts[what]);
        }
        for (int row = 0; row < 8; row++) {
            for (int column = 0; column < 8; column++) {
                Check.due("new: chips " + row + " " + column, x.chips(row, column), 0);
            }
        }
        Check.due("new: chips behind the rows", x.chips(8, 0), ChipPilers.UNKNOWN);
        Check.due("new: chips behind the columns", x.chips(0, 8), ChipPilers.UNKNOWN);
        Check.due("new: turn 0", x.turn(0), 0);
        Check.due("new: turn 1", x.turn(1), ChipPilers.NONE);
        Check.due("new: walker", x.walker(0, 0), ChipPilers.UNKNOWN);
        Check.due("new: heap", x.heap(0, 0), ChipPilers.NONE);
        Check.due("new: undo", x.undo(), ChipPilers.NONE);
        Check.due("new: restore 0", x.restore(0), ChipPilers.NONE);
        Check.due("new: restore 1", x.restore(1), ChipPilers.NONE);
    }

    private static void resetSizes() {
        ChipPilers x = new ChipPilers();
        int[][] wrong = {{1, 8}, {8, 1}, {17, 8}, {8, 17}, {0, 0}, {-1, 4}, {4, -1},
            {Integer.MIN_VALUE, 8}, {8, Integer.MAX_VALUE}};
        for (int[] size : wrong) {
            Check.due("reset " + size[0] + " " + size[1], x.reset(size[0], size[1]), ChipPilers.BAD_VALUE);
        }
        Check.due("wrong resets record nothing", x.count(11), 0);
        Check.due("rows stay", x.count(0), 8);
        int[][] right = {{2, 2}, {16, 16}, {2, 16}, {16, 2}, {3, 5}};
        for (int[] size : right) {
            Check.due("reset " + size[0] + " " + size[1], x.reset(size[0], size[1]), size[0] * size[1]);
            Check.due("rows", x.count(0), size[0]);
            Check.due("columns", x.count(1), size[1]);
            Check.due("last cell", x.chips(size[0] - 1, size[1] - 1), 0);
            Check.due("behind the rows", x.chips(size[0], 0), ChipPilers.UNKNOWN);
            Check.due("behind the columns", x.chips(0, size[1]), ChipPilers.UNKNOWN);
        }
        Check.due("resets are acts", x.count(11), 5);
    }

    private static void resetClears() {
        ChipPilers x = new ChipPilers();
        x.reset(3, 3);
        x.put(0, 1, 1);
        x.put(1, 0, 1);
        x.put(1, 2, 1);
        x.put(1, 1, 1);
        x.addWalker(2, 1, 0, 1, 9);
        Check.due("walk", x.walk(0, 2), 2);
        Check.due("merges ahead", x.count(6), 1);
        Check.due("splits ahead", x.count(7), 2);
        Check.due("steps ahead", x.count(8), 2);
        Check.due("dropped ahead", x.empty(0) + x.walker(0, 8), 4);
        Check.due("reset", x.reset(4, 4), 16);
        for (int what = 2; what <= 9; what++) {
            Check.due("reset: count " + what, x.count(what), 0);
        }
        Check.due("reset: no chips", x.chips(1, 1), 0);
        Check.due("reset: no walker", x.walker(0, 0), ChipPilers.UNKNOWN);
        Check.due("reset: the same number again", x.addWalker(3, 3, 0, 2, 4), 0);
        int[] fresh = {3, 3, 0, 0, 4, 2, 0, 0, 0};
        for (int what = 0; what < fresh.length; what++) {
            Check.due("reset: fresh walker " + what, x.walker(0, what), fresh[what]);
        }
    }

    private static void resetKeepsTheRest() {
        ChipPilers x = new ChipPilers();
        x.addTurn(3);
        x.addTurn(4);
        x.addTurn(5);
        x.addWalker(4, 4, 0, 0, 1);
        x.walk(0, 1);
        x.put(0, 0, 7);
        x.keep(1);
        Check.text(x, "r2");
        x.reset(5, 5);
        Check.due("the row of turns stays", x.count(10), 3);
        Check.due("its numbers stay", x.turn(2), 5);
        Check.due("its place stays", x.count(9), 1);
        Check.due("the text stays", x.count(12), 2);
        Check.due("the history stays", x.count(11), 5);
        Check.due("addTurn goes on", x.addTurn(6), 4);
        Check.due("the snapshot stays", x.restore(1), 7);
        ChipPilers y = new ChipPilers();
        y.reset(5, 5);
        Check.due("the lone 0 is still to be replaced", y.addTurn(6), 1);
    }

    private static void puts() {
        ChipPilers x = new ChipPilers();
        x.reset(3, 4);
        Check.due("put", x.put(2, 3, 99), 0);
        Check.due("put again", x.put(2, 3, 5), 99);
        Check.due("put none", x.put(2, 3, 0), 5);
        Check.due("put the same", x.put(2, 3, 0), 0);
        Check.due("put the same is an act", x.count(11), 5);
        Check.due("no merges", x.count(6), 0);
        Check.due("no splits", x.count(7), 0);
        Check.due("row -1", x.put(-1, 0, 1), ChipPilers.UNKNOWN);
        Check.due("row 3", x.put(3, 0, 1), ChipPilers.UNKNOWN);
        Check.due("column -1", x.put(0, -1, 1), ChipPilers.UNKNOWN);
        Check.due("column 4", x.put(0, 4, 1), ChipPilers.UNKNOWN);
        Check.due("100 chips", x.put(0, 0, 100), ChipPilers.BAD_VALUE);
        Check.due("-1 chips", x.put(0, 0, -1), ChipPilers.BAD_VALUE);
        Check.due("UNKNOWN ahead of BAD_VALUE", x.put(3, 0, 100), ChipPilers.UNKNOWN);
        Check.due("far out", x.put(Integer.MAX_VALUE, Integer.MIN_VALUE, 1), ChipPilers.UNKNOWN);
        Check.due("nothing came", x.count(3), 0);
        ChipPilers y = new ChipPilers();
        y.put(8, 0, 1);
        y.put(0, 0, 100);
        Check.due("wrong puts record nothing", y.count(11), 0);
        y.put(0, 0, 1);
        y.put(0, 1, 98);
        Check.due("two cells", y.count(3), 99);
        Check.due("undo of put", y.undo(), 1);
        Check.due("chips behind undo", y.chips(0, 1), 0);
    }

    private static void strews() {
        ChipPilers x = new ChipPilers();
        x.reset(3, 4);
        Check.due("strew all", x.strew(0, 0, 20), 12);
        Check.due("strew by 1", x.strew(9, 9, 1), 12);
        Check.due("all have 2", x.count(3), 24);
        x.reset(3, 4);
        Check.due("strew by rows", x.strew(1, 0, 2), 8);
        Check.due("row 1 has none", x.chips(1, 2), 0);
        Check.due("row 2 has some", x.chips(2, 3), 1);
        Check.due("strew by columns", x.strew(0, 1, 3), 6);
        Check.due("column 3", x.chips(1, 3), 1);
        Check.due("both", x.chips(0, 0), 2);
        Check.due("strew by both", x.strew(2, 3, 5), 3);
        Check.due("2 * 1 + 3 * 1", x.chips(1, 1), 1);
        Check.due("2 * 2 + 3 * 2", x.chips(2, 2), 2);
        Check.due("0", x.chips(0, 0), 3);
        x.reset(2, 2);
        x.put(0, 0, 99);
        Check.due("a full cell gets none", x.strew(0, 0, 1), 3);
        Check.due("99 stays", x.chips(0, 0), 99);
        Check.due("recorded", x.undo(), 4);
        Check.due("behind undo", x.count(3), 99);
        int states = x.count(11);
        Check.due("none comes", x.strew(9, 8, 20), ChipPilers.NONE);
        Check.due("NONE records nothing", x.count(11), states);
        Check.due("98 takes one", x.put(0, 0, 98) + x.strew(9, 8, 20), 100);
    }

    private static void strewsWrongly() {
        ChipPilers x = new ChipPilers();
        int[][] wrong = {{-1, 0, 1}, {10, 0, 1}, {0, -1, 1}, {0, 10, 1}, {0, 0, 0}, {0, 0, 21}, {0, 0, -1},
            {Integer.MAX_VALUE, 1, 1}, {1, 1, Integer.MIN_VALUE}};
        for (int[] a : wrong) {
            Check.due("strew " + a[0] + " " + a[1] + " " + a[2], x.strew(a[0], a[1], a[2]), ChipPilers.BAD_VALUE);
        }
        Check.due("no chips came", x.count(3), 0);
        Check.due("nothing recorded", x.count(11), 0);
        Check.due("edges of a, b and m", x.strew(9, 9, 20), 1);
    }
}
