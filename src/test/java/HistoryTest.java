/** Promises 15 to 17: undo, keep, restore. */
public final class HistoryTest {
    public static void main(String[] args) {
        undoes();
        dropsTheOldest();
        keeps();
        restores();
        bringsEverythingBack();
        Check.end();
    }

    private static void undoes() {
        ChipPilers x = new ChipPilers();
        Check.due("empty", x.undo(), ChipPilers.NONE);
        x.put(0, 0, 1);
        x.put(0, 0, 2);
        x.put(0, 0, 3);
        Check.due("two left", x.undo(), 2);
        Check.due("2", x.chips(0, 0), 2);
        Check.due("one left", x.undo(), 1);
        Check.due("1", x.chips(0, 0), 1);
        x.put(0, 0, 9);
        Check.due("one left again", x.undo(), 1);
        Check.due("1 again", x.chips(0, 0), 1);
        Check.due("none left", x.undo(), 0);
        Check.due("0", x.chips(0, 0), 0);
        Check.due("empty again", x.undo(), ChipPilers.NONE);
        Check.due("nothing changed", x.count(3), 0);
    }

    private static void dropsTheOldest() {
        ChipPilers x = new ChipPilers();
        for (int chips = 1; chips <= 8; chips++) {
            x.put(0, 0, chips);
            Check.due("states", x.count(11), Math.min(chips, 5));
        }
        for (int left = 4; left >= 0; left--) {
            Check.due("left", x.undo(), left);
            Check.due("chips", x.chips(0, 0), left + 3);
        }
        Check.due("the oldest are gone", x.undo(), ChipPilers.NONE);
        Check.due("3", x.chips(0, 0), 3);
    }

    private static void keeps() {
        ChipPilers x = new ChipPilers();
        Check.due("slot -1", x.keep(-1), ChipPilers.UNKNOWN);
        Check.due("slot 2", x.keep(2), ChipPilers.UNKNOWN);
        Check.due("no chips", x.keep(0), 0);
        x.addWalker(0, 0, 1, 1, 9);
        x.put(0, 1, 2);
        x.put(3, 3, 99);
        x.walk(0, 1);
        int states = x.count(11);
        Check.due("chips on the board alone", x.keep(1), 99);
        Check.due("no act", x.count(11), states);
        x.put(3, 3, 7);
        Check.due("in place of what is there", x.keep(1), 7);
        Check.due("restore 1", x.restore(1), 7);
        Check.due("restore 0", x.restore(0), 0);
    }

    private static void restores() {
        ChipPilers x = new ChipPilers();
        x.keep(1);
        Check.due("slot -1", x.restore(-1), ChipPilers.UNKNOWN);
        Check.due("slot 2", x.restore(2), ChipPilers.UNKNOWN);
        Check.due("slot 0", x.restore(0), ChipPilers.NONE);
        Check.due("nothing recorded", x.count(11), 0);
        x.put(0, 0, 5);
        x.keep(0);
        x.put(0, 0, 6);
        Check.due("restore", x.restore(0), 5);
        Check.due("an act", x.count(11), 3);
        x.put(0, 0, 8);
        Check.due("the snapshot stays as it was", x.restore(0), 5);
        Check.due("again", x.restore(0), 5);
        Check.due("undo one", x.undo(), 4);
        Check.due("undo two", x.undo(), 3);
        Check.due("8", x.chips(0, 0), 8);
        x.undo();
        x.undo();
        Check.due("6", x.chips(0, 0), 6);
        Check.due("undo leaves the snapshot", x.restore(0), 5);
    }

    private static void bringsEverythingBack() {
        ChipPilers x = new ChipPilers();
        x.reset(4, 5);
        x.addWalker(1, 0, 1, 1, 4);
        x.addWalker(3, 4, 3, 2, 2);
        x.addTurn(0);
        x.addTurn(0);
        x.addTurn(5);
        x.put(1, 1, 1);
        x.put(1, 2, 1);
        x.put(0, 2, 1);
        x.put(2, 2, 1);
        x.put(3, 3, 7);
        x.walk(0, 2);
        int[] told = tell(x);
        x.keep(0);
        x.clearTurns();
        x.reset(16, 16);
        x.addWalker(9, 9, 0, 0, 1);
        x.strew(1, 3, 4);
        x.rounds(9);
        Check.due("chips", x.restore(0), 9);
        same("restore", told, tell(x));
        x.rounds(3);
        x.setSort(0, 2);
        x.undo();
        x.undo();
        same("undo", told, tell(x));
        Check.due("undo of restore", x.undo(), 2);
        Check.due("rows", x.count(0), 16);
        Check.due("walkers", x.count(2), 1);
    }

    private static int[] tell(ChipPilers x) {
        int[] told = new int[64];
        int size = 0;
        for (int what = 0; what <= 10; what++) {
            told[size++] = x.count(what);
        }
        for (int walker = 0; walker < 2; walker++) {
            for (int what = 0; what <= 8; what++) {
                told[size++] = x.walker(walker, what);
            }
        }
        for (int row = 0; row < 4; row++) {
            for (int column = 0; column < 5; column++) {
                told[size++] = x.chips(row, column);
            }
        }
        for (int index = 0; index < 4; index++) {
            told[size++] = x.turn(index);
        }
        told[size++] = x.heap(0, 0);
        told[size++] = x.heapOf(2, 2);
        told[size++] = x.roundsUntil(1);
        return told;
    }

    private static void same(String what, int[] want, int[] got) {
        for (int index = 0; index < want.length; index++) {
            Check.due(what + " told " + index, got[index], want[index]);
        }
    }
}
