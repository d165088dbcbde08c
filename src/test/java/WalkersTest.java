/** Promises 5 to 9: addWalker, setSort, empty, addTurn, clearTurns. */
public final class WalkersTest {
    public static void main(String[] args) {
        addsWalkers();
        addsWrongly();
        addsUpToEight();
        setsSorts();
        empties();
        addsTurns();
        clearsTurns();
        Check.end();
    }

    private static void addsWalkers() {
        ChipPilers x = new ChipPilers();
        Check.due("first", x.addWalker(7, 0, 3, 2, 9), 0);
        Check.due("second, in the same cell", x.addWalker(7, 0, 0, 0, 1), 1);
        int[] first = {7, 0, 3, 0, 9, 2, 0, 0, 0};
        int[] second = {7, 0, 0, 0, 1, 0, 0, 0, 0};
        for (int what = 0; what < 9; what++) {
            Check.due("first " + what, x.walker(0, what), first[what]);
            Check.due("second " + what, x.walker(1, what), second[what]);
        }
        Check.due("walkers", x.count(2), 2);
        Check.due("acts", x.count(11), 2);
        Check.due("undo", x.undo(), 1);
        Check.due("walkers behind undo", x.count(2), 1);
        Check.due("no second", x.walker(1, 0), ChipPilers.UNKNOWN);
    }

    private static void addsWrongly() {
        ChipPilers x = new ChipPilers();
        x.reset(3, 4);
        int[][] unknown = {{-1, 0}, {3, 0}, {0, -1}, {0, 4}, {Integer.MIN_VALUE, Integer.MAX_VALUE}};
        for (int[] cell : unknown) {
            Check.due("cell " + cell[0] + " " + cell[1], x.addWalker(cell[0], cell[1], 0, 0, 1), ChipPilers.UNKNOWN);
            Check.due("UNKNOWN ahead of BAD_VALUE", x.addWalker(cell[0], cell[1], 4, 3, 0), ChipPilers.UNKNOWN);
        }
        int[][] bad = {{-1, 0, 1}, {4, 0, 1}, {0, -1, 1}, {0, 3, 1}, {0, 0, 0}, {0, 0, 10}, {0, 0, -1}};
        for (int[] a : bad) {
            Check.due("addWalker " + a[0] + " " + a[1] + " " + a[2],
                x.addWalker(2, 3, a[0], a[1], a[2]), ChipPilers.BAD_VALUE);
        }
        Check.due("none came", x.count(2), 0);
        Check.due("nothing recorded", x.count(11), 1);
    }

    private static void addsUpToEight() {
        ChipPilers x = new ChipPilers();
        for (int number = 0; number < 8; number++) {
            Check.due("walker " + number, x.addWalker(number, number, number % 4, number % 3, number + 1), number);
        }
        Check.due("ninth", x.addWalker(0, 0, 0, 0, 1), ChipPilers.FULL);
        Check.due("UNKNOWN ahead of FULL", x.addWalker(8, 0, 0, 0, 1), ChipPilers.UNKNOWN);
        Check.due("BAD_VALUE ahead of FULL", x.addWalker(0, 0, 0, 0, 0), ChipPilers.BAD_VALUE);
        Check.due("eight", x.count(2), 8);
        Check.due("capacity of the last", x.walker(7, 4), 8);
        Check.due("undo", x.undo(), 4);
        Check.due("room again", x.addWalker(0, 0, 0, 0, 1), 7);
    }

    private static void setsSorts() {
        ChipPilers x = new ChipPilers();
        x.addWalker(0, 0, 0, 1, 1);
        Check.due("to 2", x.setSort(0, 2), 1);
        Check.due("to 0", x.setSort(0, 0), 2);
        Check.due("to 0 again", x.setSort(0, 0), 0);
        Check.due("is 0", x.walker(0, 5), 0);
        Check.due("acts", x.count(11), 4);
        Check.due("no walker", x.setSort(1, 0), ChipPilers.UNKNOWN);
        Check.due("walker -1", x.setSort(-1, 0), ChipPilers.UNKNOWN);
        Check.due("walker 8", x.setSort(8, 0), ChipPilers.UNKNOWN);
        Check.due("UNKNOWN ahead of BAD_VALUE", x.setSort(1, 3), ChipPilers.UNKNOWN);
        Check.due("sort 3", x.setSort(0, 3), ChipPilers.BAD_VALUE);
        Check.due("sort -1", x.setSort(0, -1), ChipPilers.BAD_VALUE);
        Check.due("nothing recorded", x.count(11), 4);
        x.undo();
        x.undo();
        Check.due("behind two undos", x.walker(0, 5), 2);
    }

    private static void empties() {
        ChipPilers x = new ChipPilers();
        Check.due("no walker", x.empty(0), ChipPilers.UNKNOWN);
        x.addWalker(2, 2, 0, 1, 5);
        Check.due("walker -1", x.empty(-1), ChipPilers.UNKNOWN);
        Check.due("walker 1", x.empty(1), ChipPilers.UNKNOWN);
        Check.due("an empty pocket", x.empty(0), ChipPilers.NONE);
        Check.due("NONE records nothing", x.count(11), 1);
        x.put(2, 2, 5);
        Check.runText(x, "g4");
        x.put(2, 2, 96);
        int states = x.count(11);
        Check.due("100 is too much", x.empty(0), ChipPilers.NOT_POSSIBLE);
        Check.due("nothing recorded", x.count(11), states);
        Check.due("the pocket stays", x.walker(0, 3), 4);
        x.put(2, 2, 95);
        Check.due("99 goes", x.empty(0), 99);
        Check.due("the pocket is empty", x.walker(0, 3), 0);
        Check.due("dropped", x.walker(0, 8), 4);
        Check.due("picked up", x.walker(0, 7), 4);
        Check.due("no step", x.walker(0, 6), 0);
        x.undo();
        Check.due("undo: the pocket", x.walker(0, 3), 4);
        Check.due("undo: the cell", x.chips(2, 2), 95);
        Check.due("undo: dropped", x.walker(0, 8), 0);
        x.put(2, 2, 0);
        Check.due("onto a cell without chips", x.empty(0), 4);
        Check.due("a heap more", x.count(5), 1);
        Check.due("no split is told", x.count(7), 0);
        x.put(2, 2, 99);
        Check.due("an empty pocket on a full cell", x.empty(0), ChipPilers.NONE);
    }

    private static void addsTurns() {
        ChipPilers x = new ChipPilers();
        Check.due("10", x.addTurn(10), ChipPilers.BAD_VALUE);
        Check.due("-1", x.addTurn(-1), ChipPilers.BAD_VALUE);
        Check.due("nothing recorded", x.count(11), 0);
        Check.due("the first replaces", x.addTurn(0), 1);
        Check.due("the second adds to an added 0", x.addTurn(9), 2);
        Check.due("turn 0", x.turn(0), 0);
        Check.due("turn 1", x.turn(1), 9);
        x.undo();
        x.undo();
        Check.due("due again behind undo", x.addTurn(4), 1);
        Check.due("turn 0 is 4", x.turn(0), 4);
        x.addTurn(3);
        x.addWalker(3, 3, 0, 0, 1);
        x.walk(0, 1);
        Check.due("the place moved", x.count(9), 1);
        x.addTurn(2);
        Check.due("the place is 0", x.count(9), 0);
        for (int size = 4; size <= 30; size++) {
            Check.due("number " + size, x.addTurn(size % 10), size);
        }
        Check.due("31st", x.addTurn(1), ChipPilers.FULL);
        Check.due("BAD_VALUE ahead of FULL", x.addTurn(10), ChipPilers.BAD_VALUE);
        x.walk(0, 1);
        Check.due("FULL keeps the place", x.addTurn(1) * 10 + x.count(9), -29);
        Check.due("last", x.turn(29), 0);
        Check.due("behind the last", x.turn(30), ChipPilers.NONE);
        x.walk(0, 29);
        Check.due("behind the end it is 0 again", x.count(9), 0);
    }

    private static void clearsTurns() {
        ChipPilers x = new ChipPilers();
        Check.due("of a new object", x.clearTurns(), 1);
        Check.due("an act", x.count(11), 1);
        x.addTurn(5);
        x.addTurn(6);
        x.addTurn(7);
        x.addWalker(3, 3, 0, 0, 1);
        x.walk(0, 2);
        Check.due("place", x.count(9), 2);
        Check.due("three", x.clearTurns(), 3);
        Check.due("place 0", x.count(9), 0);
        Check.due("one", x.count(10), 1);
        Check.due("the number 0", x.turn(0), 0);
        Check.due("no more", x.turn(1), ChipPilers.NONE);
        Check.due("the next one replaces", x.addTurn(8), 1);
        Check.due("it is 8", x.turn(0), 8);
        x.undo();
        x.undo();
        Check.due("three again", x.count(10), 3);
        Check.due("the first of them again", x.turn(0), 5);
        Check.due("place again", x.count(9), 2);
        Check.due("adding goes on", x.addTurn(1), 4);
    }
}
