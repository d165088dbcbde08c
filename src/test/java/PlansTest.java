/** Promises 12 to 14: type, clearText, run. */
public final class PlansTest {
    public static void main(String[] args) {
        types();
        tellsFaults();
        tellsFaultsWithoutWalkers();
        makesWalkersStep();
        picksUpAndDrops();
        changesThePresentWalker();
        isOneAct();
        countsForMergesAndSplits();
        Check.end();
    }

    private static void types() {
        ChipPilers x = new ChipPilers();
        Check.due("clear nothing", x.clearText(), 0);
        char[] characters = {'r', ' ', 0, 255, 256, Character.MAX_VALUE};
        for (int index = 0; index < 40; index++) {
            Check.due("type " + index, x.type(characters[index % 6]), index + 1);
        }
        Check.due("41st", x.type('r'), ChipPilers.FULL);
        Check.due("length", x.count(12), 40);
        Check.due("no act", x.count(11), 0);
        Check.due("fault of the text", x.run(), -101);
        Check.due("clear", x.clearText(), 40);
        Check.due("length then", x.count(12), 0);
        Check.due("clear again", x.clearText(), 0);
        Check.due("no act either", x.count(11), 0);
        Check.due("again", x.type('r'), 1);
        x.put(0, 0, 1);
        Check.due("undo", x.undo(), 0);
        Check.due("the text is no part of the state", x.count(12), 1);
    }

    private static void tellsFaults() {
        ChipPilers x = new ChipPilers();
        x.addWalker(4, 4, 0, 0, 1);
        x.addWalker(4, 4, 0, 0, 1);
        String[] texts = {"", "0", "5", "x", "R", " r", "r r", "r0", "r01", "n50", "n51", "n59", "n60", "n99", "n6",
            "n500", "n10n", "n100", "#", "r#", "#2", "#8", "#9", "##", "#n", "#0", "#1", "#10", "#0n", "#00", "g0",
            "d5x", "rr\u0000", "n1#1#", "\u0663", "r\u0661", "N"};
        int[] faults = {0, 0, 0, 0, 0, 0, 1, 1, 1, -1, 2, 2, 2, 2, -1,
            3, -1, 3, 1, 2, 1, 1, 1, 1, 1, -1, -1, 2, -1, 2, 1,
            2, 2, 5, 0, 1, 0};
        for (int index = 0; index < texts.length; index++) {
            int before = x.count(11);
            int answer = Check.runText(x, texts[index]);
            if (faults[index] >= 0) {
                Check.due("fault of " + texts[index], answer, -100 - faults[index]);
                Check.due("nothing recorded", x.count(11), before);
            } else {
                Check.due("no fault of " + texts[index], answer >= 0 ? 1 : 0, 1);
                Check.due("recorded", x.count(11), Math.min(before + 1, 5));
            }
            Check.due("the text stays", x.count(12), texts[index].length());
        }
        ChipPilers y = new ChipPilers();
        y.addWalker(7, 4, 0, 0, 1);
        Check.due("a fault at the end changes nothing", Check.runText(y, "n3r5#1"), -105);
        Check.due("no step", y.count(8), 0);
        Check.due("40 characters", Check.runText(y, "nsnsnsnsnsnsnsnsnsnsnsnsnsnsnsnsnsnsns#0"), 38);
        Check.due("40 characters, ending too early", Check.runText(y, "nsnsnsnsnsnsnsnsnsnsnsnsnsnsnsnsnsnsnsr#"), -140);
    }

    private static void tellsFaultsWithoutWalkers() {
        ChipPilers x = new ChipPilers();
        String letters = "neswgd";
        for (int index = 0; index < letters.length(); index++) {
            Check.due("without walkers " + letters.charAt(index),
                Check.runText(x, "r" + letters.charAt(index)), -101);
        }
        Check.due("# without walkers", Check.runText(x, "#"), -101);
        Check.due("#0 without walkers", Check.runText(x, "#0"), -101);
        Check.due("r#0 without walkers", Check.runText(x, "r#0"), -102);
        Check.due("nothing recorded", x.count(11), 0);
        Check.due("r without walkers", Check.runText(x, "r50r"), 0);
        Check.due("recorded", x.count(11), 1);
    }

    private static void makesWalkersStep() {
        ChipPilers x = new ChipPilers();
        x.addTurn(5);
        x.addTurn(5);
        x.addWalker(4, 4, 0, 0, 1);
        Check.due("two, one, one and three", Check.runText(x, "n2e1sw3"), 7);
        Check.due("row", x.walker(0, 0), 3);
        Check.due("column", x.walker(0, 1), 2);
        Check.due("direction", x.walker(0, 2), 3);
        Check.due("steps", x.walker(0, 6), 7);
        Check.due("without a turn", x.count(9), 0);
        Check.due("up to the wall", Check.runText(x, "n50"), 3);
        Check.due("direction north", x.walker(0, 2), 0);
        Check.due("a wall ends this order alone", Check.runText(x, "e50s2e9w"), 8);
        Check.due("row 2", x.walker(0, 0), 2);
        Check.due("column 6", x.walker(0, 1), 6);
        Check.due("to the wall", Check.runText(x, "e9"), 1);
        Check.due("west wall", Check.runText(x, "w50"), 7);
        Check.due("south", Check.runText(x, "s50"), 5);
        Check.due("no step to a wall", Check.runText(x, "w"), 0);
        Check.due("a step that isn't made gives no direction", x.walker(0, 2), 2);
        Check.due("a round takes a turn", Check.runText(x, "r"), 1);
        Check.due("place", x.count(9), 1);
        Check.due("turned to a wall and from it", x.walker(0, 2), 0);
        x.put(5, 0, 3);
        Check.due("the sort acts", Check.runText(x, "n"), 1);
        Check.due("pocket", x.walker(0, 3), 1);
        Check.due("cell", x.chips(5, 0), 2);
    }

    private static void picksUpAndDrops() {
        ChipPilers x = new ChipPilers();
        x.addWalker(3, 3, 2, 2, 5);
        Check.due("nothing to pick up", Check.runText(x, "g9d9"), 0);
        x.put(3, 3, 3);
        Check.due("one", Check.runText(x, "g"), 0);
        Check.due("one in the pocket", x.walker(0, 3), 1);
        Check.due("as far as there are chips", Check.runText(x, "g9"), 0);
        Check.due("three in the pocket", x.walker(0, 3), 3);
        Check.due("none in the cell", x.chips(3, 3), 0);
        Check.due("a merge isn't told", x.count(6), 0);
        x.put(3, 3, 50);
        Check.due("as far as the capacity", Check.runText(x, "g50"), 0);
        Check.due("five", x.walker(0, 3), 5);
        Check.due("48", x.chips(3, 3), 48);
        Check.due("picked up", x.walker(0, 7), 5);
        Check.due("drop two", Check.runText(x, "d2"), 0);
        Check.due("three again", x.walker(0, 3), 3);
        Check.due("dropped", x.walker(0, 8), 2);
        x.put(3, 3, 98);
        Check.due("as far as there is room", Check.runText(x, "d9"), 0);
        Check.due("two are left", x.walker(0, 3), 2);
        Check.due("99", x.chips(3, 3), 99);
        Check.due("no room", Check.runText(x, "d"), 0);
        Check.due("two still", x.walker(0, 3), 2);
        x.put(3, 3, 0);
        Check.due("onto nothing", Check.runText(x, "d50"), 0);
        Check.due("as far as there are chips", x.chips(3, 3), 2);
        Check.due("a heap, but no split", x.count(5) * 10 + x.count(7), 10);
        Check.due("no steps", x.count(8), 0);
        Check.due("direction stays", x.walker(0, 2), 2);
    }

    private static void changesThePresentWalker() {
        ChipPilers x = new ChipPilers();
        x.addWalker(0, 0, 0, 0, 1);
        x.addWalker(0, 0, 0, 0, 1);
        x.addWalker(0, 0, 0, 0, 1);
        Check.due("three walkers", Check.runText(x, "s1#1s2#2s3#0s4"), 10);
        Check.due("walker 0", x.walker(0, 0), 5);
        Check.due("walker 1", x.walker(1, 0), 2);
        Check.due("walker 2", x.walker(2, 0), 3);
        Check.due("# alone makes no step", Check.runText(x, "#2"), 0);
        Check.due("the next plan begins with walker 0", Check.runText(x, "n"), 1);
        Check.due("walker 0 went", x.walker(0, 0), 4);
        Check.due("rounds of all", Check.runText(x, "#2r3e"), 10);
        Check.due("walker 2 stays the present one", x.walker(2, 6), 7);
    }

    private static void isOneAct() {
        ChipPilers x = new ChipPilers();
        x.addWalker(4, 4, 0, 1, 9);
        x.put(4, 4, 9);
        x.put(3, 4, 1);
        Check.due("run", Check.runText(x, "g3nr5s2d1"), 8);
        Check.due("one state", x.count(11), 4);
        Check.due("undo", x.undo(), 3);
        Check.due("row", x.walker(0, 0), 4);
        Check.due("pocket", x.walker(0, 3), 0);
        Check.due("steps", x.count(8), 0);
        Check.due("cell", x.chips(4, 4), 9);
        Check.due("the text stays", x.count(12), 9);
        Check.due("run it again", x.run(), 8);
        Check.due("no step is an act, too", Check.runText(x, "d"), 0);
        Check.due("recorded", x.count(11), 5);
    }

    private static void countsForMergesAndSplits() {
        ChipPilers x = new ChipPilers();
        x.addWalker(0, 0, 0, 1, 9);
        x.put(0, 1, 1);
        x.put(1, 2, 1);
        x.put(1, 3, 1);
        x.put(1, 4, 1);
        Check.due("run", Check.runText(x, "ees"), 3);
        Check.due("a merge by the first", x.count(6), 1);
        Check.due("no split", x.count(7), 0);
        ChipPilers y = new ChipPilers();
        y.addWalker(0, 3, 0, 1, 9);
        y.put(1, 2, 1);
        y.put(1, 3, 1);
        y.put(1, 4, 1);
        Check.due("run", Check.runText(y, "s"), 1);
        Check.due("a split", y.count(7), 1);
        Check.due("no merge", y.count(6), 0);
    }
}
