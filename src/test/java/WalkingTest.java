/** Promises 10 and 11: walk and rounds, with the terms of turns, steps and heaps. */
public final class WalkingTest {
    public static void main(String[] args) {
        walksWrongly();
        turnsByEachNumber();
        isBlindAtWalls();
        gathers();
        hauls();
        sweeps();
        sweepsByTheGreatestHeap();
        tellsMergesAndSplits();
        goesRounds();
        Check.end();
    }

    private static ChipPilers walkerOn(int row, int column, int direction, int sort, int capacity) {
        ChipPilers x = new ChipPilers();
        x.addWalker(row, column, direction, sort, capacity);
        return x;
    }

    private static void walksWrongly() {
        ChipPilers x = new ChipPilers();
        Check.due("no walker", x.walk(0, 1), ChipPilers.UNKNOWN);
        x.addWalker(0, 0, 1, 0, 1);
        Check.due("walker -1", x.walk(-1, 1), ChipPilers.UNKNOWN);
        Check.due("walker 1", x.walk(1, 0), ChipPilers.UNKNOWN);
        Check.due("no steps", x.walk(0, 0), ChipPilers.BAD_VALUE);
        Check.due("101 steps", x.walk(0, 101), ChipPilers.BAD_VALUE);
        Check.due("-1 steps", x.walk(0, -1), ChipPilers.BAD_VALUE);
        Check.due("nothing recorded", x.count(11), 1);
        Check.due("100 steps", x.walk(0, 100), 0);
        Check.due("steps", x.walker(0, 6), 100);
        Check.due("all steps", x.count(8), 100);
        Check.due("round the edge: row", x.walker(0, 0), 7);
        Check.due("round the edge: column", x.walker(0, 1), 5);
        Check.due("one act", x.undo(), 1);
        Check.due("no steps behind undo", x.count(8), 0);
    }

    private static void turnsByEachNumber() {
        int[] quarters = {0, 0, 0, 0, 0, 1, 1, 3, 3, 2};
        for (int direction = 0; direction < 4; direction++) {
            for (int number = 0; number < 10; number++) {
                ChipPilers x = walkerOn(4, 4, direction, 0, 1);
                x.addTurn(number);
                x.walk(0, 1);
                int turned = (direction + quarters[number]) % 4;
                String call = "direction " + direction + " by " + number;
                Check.due(call, x.walker(0, 2), turned);
                Check.due(call + ": row", x.walker(0, 0), turned == 0 ? 3 : turned == 2 ? 5 : 4);
                Check.due(call + ": column", x.walker(0, 1), turned == 3 ? 3 : turned == 1 ? 5 : 4);
            }
        }
        ChipPilers x = walkerOn(4, 4, 0, 0, 1);
        x.addWalker(4, 4, 0, 0, 1);
        x.addTurn(0);
        x.addTurn(5);
        x.addTurn(7);
        x.walk(0, 2);
        Check.due("second number", x.walker(0, 2), 1);
        x.walk(1, 1);
        Check.due("third number for the other walker", x.walker(1, 2), 3);
        Check.due("behind the end", x.count(9), 0);
    }

    private static void isBlindAtWalls() {
        // row, column, direction, and the direction of the step that is due
        int[][] runs = {{0, 4, 0, 1}, {4, 7, 1, 2}, {7, 4, 2, 3}, {4, 0, 3, 0}, {0, 7, 0, 2}, {0, 7, 1, 2},
            {7, 7, 1, 3}, {7, 7, 2, 3}, {7, 0, 2, 0}, {7, 0, 3, 0}, {0, 0, 3, 1}, {0, 0, 0, 1}};
        for (int[] run : runs) {
            ChipPilers x = walkerOn(run[0], run[1], run[2], 0, 1);
            x.walk(0, 1);
            Check.due("wall at " + run[0] + " " + run[1] + " to " + run[2], x.walker(0, 2), run[3]);
        }
        ChipPilers x = walkerOn(0, 4, 1, 0, 1);
        x.addTurn(7);
        x.walk(0, 1);
        Check.due("the turn comes ahead of the wall", x.walker(0, 2), 1);
        Check.due("one number a step", x.count(9), 0);
        Check.due("a step", x.walker(0, 1), 5);
    }

    private static void gathers() {
        ChipPilers x = walkerOn(0, 0, 1, 0, 9);
        x.put(0, 1, 3);
        x.put(0, 3, 99);
        x.put(0, 4, 98);
        Check.due("one, though there are three and room for nine", x.walk(0, 1), 1);
        Check.due("two are left", x.chips(0, 1), 2);
        Check.due("no drop without chips", x.walk(0, 1), 1);
        Check.due("chips there", x.chips(0, 2), 0);
        Check.due("no drop on 99", x.walk(0, 1), 1);
        Check.due("99 stay", x.chips(0, 3), 99);
        Check.due("a drop on 98", x.walk(0, 1), 0);
        Check.due("99 then", x.chips(0, 4), 99);
        Check.due("picked up", x.walker(0, 7), 1);
        Check.due("dropped", x.walker(0, 8), 1);
        ChipPilers y = walkerOn(0, 0, 1, 0, 9);
        y.put(0, 0, 5);
        y.put(0, 1, 5);
        Check.runText(y, "g3");
        Check.due("one chip a drop", y.walk(0, 1), 2);
        Check.due("six", y.chips(0, 1), 6);
    }

    private static void hauls() {
        ChipPilers x = walkerOn(0, 0, 1, 1, 3);
        x.put(0, 1, 2);
        x.put(0, 2, 2);
        x.put(0, 3, 1);
        x.put(0, 4, 3);
        Check.due("both", x.walk(0, 1), 2);
        Check.due("none is left", x.chips(0, 1), 0);
        Check.due("as many as it can", x.walk(0, 1), 3);
        Check.due("one is left", x.chips(0, 2), 1);
        Check.due("no room", x.walk(0, 1), 3);
        Check.due("it stays", x.chips(0, 3), 1);
        Check.due("all drop on three", x.walk(0, 1), 0);
        Check.due("six", x.chips(0, 4), 6);
        Check.due("picked up", x.walker(0, 7), 3);
        Check.due("dropped", x.walker(0, 8), 3);
        ChipPilers y = walkerOn(0, 0, 1, 1, 9);
        y.put(0, 0, 9);
        Check.runText(y, "g5");
        y.put(0, 1, 97);
        y.put(0, 2, 99);
        y.put(0, 3, 1);
        y.put(0, 4, 3);
        Check.due("as many as the cell takes", y.walk(0, 1), 3);
        Check.due("99", y.chips(0, 1), 99);
        Check.due("no room there", y.walk(0, 1), 3);
        Check.due("a pocket doesn't hinder it", y.walk(0, 1), 4);
        Check.due("the lone one is gone", y.chips(0, 3), 0);
        Check.due("three are enough to drop", y.walk(0, 1), 0);
        y.put(0, 5, 3);
        Check.due("nothing to drop, too many to pick up", y.walk(0, 1), 0);
        Check.due("three stay", y.chips(0, 5), 3);
    }

    private static void sweeps() {
        ChipPilers x = walkerOn(0, 0, 1, 2, 2);
        x.put(7, 7, 50);
        x.put(0, 1, 2);
        x.put(0, 2, 1);
        x.put(0, 3, 5);
        x.put(0, 5, 99);
        Check.due("one of two", x.walk(0, 1), 1);
        Check.due("one is left", x.chips(0, 1), 1);
        Check.due("one more", x.walk(0, 1), 2);
        Check.due("a full pocket drops one", x.walk(0, 1), 1);
        Check.due("six", x.chips(0, 3), 6);
        Check.due("nothing without chips", x.walk(0, 1), 1);
        Check.due("no drop on 99 of the greatest heap", x.walk(0, 1), 1);
        Check.due("99 stay", x.chips(0, 5), 99);
        x.put(0, 6, 98);
        Check.due("one on the greatest heap", x.walk(0, 1), 0);
        Check.due("99 then", x.chips(0, 6), 99);
        x.put(0, 7, 4);
        Check.due("no chip of the greatest heap", x.walk(0, 1), 0);
        Check.due("four stay", x.chips(0, 7), 4);
    }

    private static void sweepsByTheGreatestHeap() {
        ChipPilers x = walkerOn(1, 0, 1, 2, 9);
        x.put(1, 1, 4);
        x.put(1, 2, 4);
        x.put(7, 7, 8);
        Check.due("as great, but of more cells", x.walk(0, 1), 1);
        Check.due("a second one, smaller", x.walk(0, 1), 2);
        ChipPilers y = walkerOn(0, 0, 2, 2, 9);
        y.put(1, 0, 3);
        y.put(0, 7, 3);
        Check.due("the first cell of the other comes first", y.walk(0, 1), 1);
        ChipPilers z = walkerOn(0, 0, 2, 2, 9);
        z.put(1, 0, 3);
        z.put(1, 1, 3);
        z.put(3, 3, 3);
        Check.due("its own comes first", z.walk(0, 1), 0);
        Check.due("a lone heap is the greatest", walkerOnLoneHeap(), 0);
    }

    private static int walkerOnLoneHeap() {
        ChipPilers x = walkerOn(0, 0, 1, 2, 9);
        x.put(0, 1, 1);
        return x.walk(0, 1);
    }

    private static void tellsMergesAndSplits() {
        ChipPilers x = walkerOn(0, 0, 2, 1, 9);
        x.put(1, 0, 1);
        Check.due("a heap goes", x.walk(0, 1), 1);
        Check.due("a merge", x.count(6), 1);
        Check.due("no split", x.count(7), 0);
        ChipPilers y = walkerOn(2, 0, 1, 1, 9);
        y.put(2, 1, 1);
        y.put(1, 1, 1);
        y.put(3, 1, 1);
        y.put(2, 2, 1);
        y.walk(0, 1);
        Check.due("three of one", y.count(5), 3);
        Check.due("two splits", y.count(7), 2);
        Check.due("no merge", y.count(6), 0);
        y.walk(0, 1);
        Check.due("one goes", y.count(6), 1);
        Check.due("two splits stay", y.count(7), 2);
        y.put(2, 1, 1);
        Check.due("put tells no merge", y.count(6), 1);
        y.undo();
        y.undo();
        Check.due("undo takes merges back", y.count(6), 0);
        Check.due("undo leaves splits", y.count(7), 2);
    }

    private static void goesRounds() {
        ChipPilers x = new ChipPilers();
        Check.due("no walkers", x.rounds(1), ChipPilers.NONE);
        Check.due("BAD_VALUE ahead of NONE", x.rounds(0), ChipPilers.BAD_VALUE);
        Check.due("51", x.rounds(51), ChipPilers.BAD_VALUE);
        Check.due("-1", x.rounds(-1), ChipPilers.BAD_VALUE);
        Check.due("nothing recorded", x.count(11), 0);
        x.addWalker(0, 0, 1, 1, 9);
        x.addWalker(0, 2, 3, 1, 9);
        x.put(0, 1, 2);
        x.put(7, 7, 4);
        x.put(5, 5, 4);
        Check.due("heaps then", x.rounds(1), 2);
        Check.due("the first is first", x.walker(0, 3), 2);
        Check.due("the second finds nothing", x.walker(1, 3), 0);
        Check.due("merges", x.count(6), 1);
        Check.due("50", x.rounds(50), 2);
        Check.due("steps of the first", x.walker(0, 6), 51);
        Check.due("steps of the second", x.walker(1, 6), 51);
        Check.due("all steps", x.count(8), 102);
        Check.due("one act", x.undo(), 4);
        Check.due("steps behind undo", x.count(8), 2);
        ChipPilers y = new ChipPilers();
        y.addTurn(5);
        y.addTurn(7);
        y.addWalker(4, 4, 0, 0, 1);
        y.addWalker(4, 4, 0, 0, 1);
        y.rounds(1);
        Check.due("first number", y.walker(0, 2), 1);
        Check.due("second number", y.walker(1, 2), 3);
    }
}
