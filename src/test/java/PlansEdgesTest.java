/** The edges of plans and of promises 12 to 14: a test for each sentence that names one. */
public final class PlansEdgesTest {
    private static final String STEPS = "nsnsnsnsnsnsnsnsnsnsnsnsnsnsnsnsnsnsnsns";

    public static void main(String[] args) {
        typesUpTo40();
        typesAnyCharacter();
        clearsText();
        textIsNoPartOfTheState();
        emptyText();
        endsTooEarly();
        firstCharacter();
        numbersFrom1To50();
        numbersOfOneOrTwoDigits();
        noZerosInFront();
        withoutBlanks();
        charactersThatAreNone();
        digitsOfWalkers();
        digitBehindThatOfAWalker();
        firstFaultIsTold();
        faultOf40Characters();
        faultChangesNothing();
        withoutWalkers();
        walkersAtTheTimeOfRun();
        oneWithoutANumber();
        roundsOfAPlan();
        stepsUpToTheWall();
        wallEndsThisOrder();
        directionByEachStep();
        withoutATurn();
        stepsEndWithTheSort();
        stepsCount();
        picksUpAsFarAsItCan();
        dropsAsFarAsItCan();
        picksUpAndDropsByNoSort();
        beginsWithWalker0();
        presentWalkerStays();
        returnsAllSteps();
        isOneAct();
        textStays();
        Check.end();
    }

    private static ChipPilers withWalkers(int number) {
        ChipPilers x = new ChipPilers();
        for (int walker = 0; walker < number; walker++) {
            x.addWalker(4, 4, 0, 0, 9);
        }
        return x;
    }

    private static void faultDue(ChipPilers x, String text, int fault) {
        Check.due("run of '" + text + "'", Check.runText(x, text), -100 - fault);
    }

    private static void allowed(ChipPilers x, String text) {
        Check.due("run of '" + text + "' has no fault", Math.min(Check.runText(x, text), 0), 0);
    }

    private static void typesUpTo40() {
        Check.about("12: FULL if it has 40 characters");
        ChipPilers x = new ChipPilers();
        for (int length = 1; length <= 40; length++) {
            Check.due("character " + length, x.type('r'), length);
        }
        Check.due("a 41st", x.type('r'), ChipPilers.FULL);
        Check.due("length", x.count(12), 40);
        Check.due("the text is as it was", x.run(), 0);
        Check.due("a 41st that is wrong", x.type('x'), ChipPilers.FULL);
        Check.due("is not in the text", x.run(), 0);
        x.clearText();
        Check.due("room again", x.type('r'), 1);
    }

    private static void typesAnyCharacter() {
        Check.about("12: character: any character");
        ChipPilers x = new ChipPilers();
        char[] characters = {0, '\t', '\n', ' ', 127, 128, 255, 256, 0xD800, 0xDFFF, 0xFFFE, 0xFFFF};
        for (int index = 0; index < characters.length; index++) {
            Check.due("type " + (int) characters[index], x.type(characters[index]), index + 1);
        }
        Check.due("length", x.count(12), characters.length);
        Check.due("fault", x.run(), -100);
    }

    private static void clearsText() {
        Check.about("13: returns the length that it had");
        ChipPilers x = new ChipPilers();
        Check.due("of a new object", x.clearText(), 0);
        x.type('r');
        Check.due("of one", x.clearText(), 1);
        Check.text(x, STEPS);
        Check.due("of 40", x.clearText(), 40);
        Check.due("length then", x.count(12), 0);
        Check.due("again", x.clearText(), 0);
        faultDue(x, "", 0);
        Check.due("no act", x.count(11), 0);
    }

    private static void textIsNoPartOfTheState() {
        Check.about("History: a state is everything but the text");
        ChipPilers x = new ChipPilers();
        x.type('r');
        x.keep(0);
        x.put(0, 0, 1);
        x.type('9');
        x.undo();
        Check.due("undo leaves it", x.count(12), 2);
        x.restore(0);
        Check.due("restore leaves it", x.count(12), 2);
        x.reset(2, 2);
        Check.due("reset leaves it", x.count(12), 2);
        Check.due("type is no act", x.count(11), 2);
    }

    private static void emptyText() {
        Check.about("Plans: or its length if it ends too early (the empty text does)");
        faultDue(new ChipPilers(), "", 0);
        faultDue(withWalkers(1), "", 0);
        ChipPilers x = withWalkers(1);
        x.run();
        Check.due("no act", x.count(11), 1);
    }

    private static void endsTooEarly() {
        Check.about("Plans: '#', which needs a digit behind it");
        ChipPilers x = withWalkers(8);
        faultDue(x, "#", 1);
        faultDue(x, "r#", 2);
        faultDue(x, "r50#", 4);
        faultDue(x, "#0#", 3);
        faultDue(x, "##", 1);
        faultDue(x, "#r", 1);
        faultDue(x, "# 0", 1);
        faultDue(x, "#/", 1);
        faultDue(x, "#:", 1);
        allowed(x, "#0");
        allowed(x, "r#7");
    }

    private static void firstCharacter() {
        Check.about("Plans: a letter, perhaps followed by a number");
        ChipPilers x = withWalkers(1);
        for (char digit = '0'; digit <= '9'; digit++) {
            faultDue(x, digit + "r", 0);
        }
        for (char letter : "rneswgd".toCharArray()) {
            allowed(x, "" + letter);
            allowed(x, letter + "2" + letter);
        }
    }

    private static void numbersFrom1To50() {
        Check.about("Plans: a number from 1 to 50");
        for (char letter : "rneswgd".toCharArray()) {
            ChipPilers x = withWalkers(1);
            allowed(x, letter + "1");
            allowed(x, letter + "9");
            allowed(x, letter + "10");
            allowed(x, letter + "49");
            allowed(x, letter + "50");
            faultDue(x, letter + "51", 2);
            faultDue(x, letter + "59", 2);
            faultDue(x, letter + "60", 2);
            faultDue(x, letter + "99", 2);
            allowed(x, letter + "6");
        }
    }

    private static void numbersOfOneOrTwoDigits() {
        Check.about("Plans: a number of 1 to 2 digits");
        ChipPilers x = withWalkers(1);
        faultDue(x, "r100", 3);
        allowed(x, "r10n");
        faultDue(x, "r500", 3);
        faultDue(x, "g111", 3);
        faultDue(x, "n123r", 3);
        faultDue(x, "n1n12n123", 8);
    }

    private static void noZerosInFront() {
        Check.about("Plans: without zeros in front (a digit 0 in front, too)");
        for (char letter : "rneswgd".toCharArray()) {
            ChipPilers x = withWalkers(1);
            faultDue(x, letter + "0", 1);
            faultDue(x, letter + "00", 1);
            faultDue(x, letter + "01", 1);
            faultDue(x, "r" + letter + "0", 2);
            allowed(x, letter + "20");
        }
    }

    private static void withoutBlanks() {
        Check.about("Plans: without blanks");
        ChipPilers x = withWalkers(1);
        faultDue(x, " ", 0);
        faultDue(x, " r", 0);
        faultDue(x, "r ", 1);
        faultDue(x, "r 5", 1);
        faultDue(x, "r5 ", 2);
        faultDue(x, "r5 n", 2);
        faultDue(x, "r\t", 1);
        faultDue(x, "r\n", 1);
    }

    private static void charactersThatAreNone() {
        Check.about("Plans: the first character that is not allowed at its place");
        ChipPilers x = withWalkers(1);
        for (char other : "RNESWGDabx/:;,-+.?".toCharArray()) {
            faultDue(x, "" + other, 0);
            faultDue(x, "r" + other, 1);
        }
        for (int letter : new int[] {'r', 'n', '#', '0', '1', '5'}) {
            faultDue(x, "r" + (char) (letter + 256), 1);
            faultDue(x, "r" + (char) (letter + 65280 - 32), 1);
        }
        faultDue(x, "r" + (char) 0x0661, 1);
        faultDue(x, "#" + (char) 0x0660, 1);
        faultDue(x, "r" + (char) 0, 1);
        faultDue(x, "r" + (char) 0xFFFF, 1);
    }

    private static void digitsOfWalkers() {
        Check.about("Plans: a digit behind '#' for which there is no walker");
        for (int walkers = 0; walkers <= 8; walkers++) {
            for (int digit = 0; digit <= 9; digit++) {
                ChipPilers x = withWalkers(walkers);
                if (digit < walkers) {
                    Check.due("#" + digit + " of " + walkers, Check.runText(x, "#" + digit), 0);
                } else {
                    faultDue(x, "#" + digit, 1);
                }
            }
        }
    }

    private static void digitBehindThatOfAWalker() {
        Check.about("Plans: '#' has one digit, a second one is not allowed at its place");
        ChipPilers x = withWalkers(8);
        faultDue(x, "#00", 2);
        faultDue(x, "#01", 2);
        faultDue(x, "#10", 2);
        faultDue(x, "#75n", 2);
        allowed(x, "#7n5");
    }

    private static void firstFaultIsTold() {
        Check.about("Plans: the index, from 0, of the first character");
        ChipPilers x = withWalkers(1);
        faultDue(x, "xyz", 0);
        faultDue(x, "r0n0", 1);
        faultDue(x, "r51n0", 2);
        faultDue(x, "n#1#", 2);
        faultDue(x, "n2x#", 2);
    }

    private static void faultOf40Characters() {
        Check.about("Plans: a text of at most 40 characters");
        ChipPilers x = withWalkers(1);
        Check.due("40 letters", Check.runText(x, STEPS), 40);
        faultDue(x, STEPS.substring(0, 39) + "x", 39);
        faultDue(x, STEPS.substring(0, 39) + "#", 40);
        faultDue(x, STEPS.substring(0, 38) + "#1", 39);
        Check.due("39 letters and a digit", Check.runText(x, STEPS.substring(0, 39) + "9"), 42);
        faultDue(x, STEPS.substring(0, 39) + "0", 39);
    }

    private static void faultChangesNothing() {
        Check.about("14: -100 minus the fault of the text if it has one (which is an error)");
        ChipPilers x = withWalkers(2);
        x.put(4, 4, 5);
        faultDue(x, "g5#1nr5n0", 8);
        Check.due("chips", x.chips(4, 4), 5);
        Check.due("pocket", x.walker(0, 3), 0);
        Check.due("steps", x.count(8), 0);
        Check.due("no act", x.count(11), 3);
        Check.due("the text stays", x.count(12), 9);
        Check.due("the same again", x.run(), -108);
    }

    private static void withoutWalkers() {
        Check.about("Plans: without walkers, the letters n, e, s, w, g and d are not allowed");
        ChipPilers x = new ChipPilers();
        for (char letter : "neswgd".toCharArray()) {
            faultDue(x, "" + letter, 0);
            faultDue(x, "r" + letter, 1);
            faultDue(x, "r50" + letter + "5", 3);
        }
        Check.due("no act", x.count(11), 0);
        Check.due("r is allowed", Check.runText(x, "r"), 0);
        Check.due("r50 is allowed", Check.runText(x, "r50r1"), 0);
        Check.due("acts", x.count(11), 2);
        faultDue(x, "#", 1);
        faultDue(x, "#0", 1);
    }

    private static void walkersAtTheTimeOfRun() {
        Check.about("14: carries out the plan of the text, which stays (the walkers are those of the call)");
        ChipPilers x = new ChipPilers();
        faultDue(x, "#1n", 1);
        x.addWalker(4, 4, 0, 0, 1);
        Check.due("one walker", x.run(), -101);
        x.addWalker(4, 4, 0, 0, 1);
        Check.due("two walkers", x.run(), 1);
        x.undo();
        x.undo();
        Check.due("one walker again", x.run(), -101);
        x.reset(8, 8);
        Check.due("none", x.run(), -101);
        faultDue(x, "n", 0);
    }

    private static void oneWithoutANumber() {
        Check.about("Plans: 1 without a number");
        for (char letter : "rnesw".toCharArray()) {
            Check.due("letter " + letter, Check.runText(withWalkers(1), "" + letter), 1);
            Check.due("letter " + letter + " and 1", Check.runText(withWalkers(1), letter + "1"), 1);
            Check.due("letter " + letter + " twice", Check.runText(withWalkers(1), "" + letter + letter), 2);
        }
        ChipPilers x = withWalkers(1);
        x.put(4, 4, 5);
        Check.runText(x, "g");
        Check.due("g", x.walker(0, 3), 1);
        Check.runText(x, "g3d");
        Check.due("d", x.walker(0, 3), 3);
    }

    private static void roundsOfAPlan() {
        Check.about("Plans: 'r' rounds, from 1 to 50");
        Check.due("r50 of 8", Check.runText(withWalkers(8), "r50"), 400);
        ChipPilers x = withWalkers(3);
        x.addTurn(5);
        x.addTurn(7);
        Check.due("r2 of 3", Check.runText(x, "r2"), 6);
        Check.due("place", x.count(9), 0);
        Check.due("each two steps", x.walker(2, 6), 2);
    }

    private static void stepsUpToTheWall() {
        Check.about("Plans: a step to a wall is not made");
        String letters = "nesw";
        for (int size = 2; size <= 16; size += 7) {
            for (int direction = 0; direction < 4; direction++) {
                ChipPilers x = new ChipPilers();
                x.reset(size, size);
                int row = direction == 0 ? size - 1 : 0;
                int column = direction == 3 ? size - 1 : 0;
                x.addWalker(row, column, 0, 0, 1);
                char letter = letters.charAt(direction);
                Check.due("over the board " + size + " by " + letter, Check.runText(x, letter + "50"), size - 1);
                Check.due("direction", x.walker(0, 2), direction);
                Check.due("at the wall", Check.runText(x, letter + "50"), 0);
                Check.due("steps", x.walker(0, 6), size - 1);
            }
        }
        ChipPilers x = withWalkers(1);
        Check.due("as many as there is way", Check.runText(x, "n4"), 4);
        Check.due("row", x.walker(0, 0), 0);
        Check.due("one less than there is way", Check.runText(x, "s6"), 6);
        Check.due("one more than there is way", Check.runText(x, "s2"), 1);
    }

    private static void wallEndsThisOrder() {
        Check.about("Plans: and ends this order");
        ChipPilers x = withWalkers(1);
        Check.due("the next orders go on", Check.runText(x, "n50n50e50s2"), 9);
        Check.due("row", x.walker(0, 0), 2);
        Check.due("column", x.walker(0, 1), 7);
        Check.due("a round behind it", Check.runText(x, "e9r"), 1);
    }

    private static void directionByEachStep() {
        Check.about("Plans: it gets this direction by each such step");
        ChipPilers x = new ChipPilers();
        x.addWalker(0, 0, 2, 0, 1);
        Check.due("no step to the north", Check.runText(x, "n"), 0);
        Check.due("direction stays", x.walker(0, 2), 2);
        Check.due("no step to the west", Check.runText(x, "w5"), 0);
        Check.due("direction stays", x.walker(0, 2), 2);
        Check.due("no step, but an act", x.count(11), 3);
        Check.due("a step to the east", Check.runText(x, "en5"), 1);
        Check.due("direction", x.walker(0, 2), 1);
    }

    private static void withoutATurn() {
        Check.about("Plans: without a turn");
        ChipPilers x = withWalkers(1);
        x.addTurn(9);
        x.addTurn(5);
        x.addTurn(7);
        Check.due("twelve steps", Check.runText(x, "n2e2s2w2n9"), 12);
        Check.due("place", x.count(9), 0);
        Check.due("direction", x.walker(0, 2), 0);
    }

    private static void stepsEndWithTheSort() {
        Check.about("Plans: the steps of n, e, s and w end with what is done by the sort, as in a step");
        ChipPilers gatherer = new ChipPilers();
        gatherer.addWalker(0, 0, 0, 0, 9);
        gatherer.put(0, 1, 1);
        gatherer.put(0, 2, 98);
        gatherer.put(0, 3, 99);
        Check.runText(gatherer, "e");
        Check.due("a gatherer picks up", gatherer.walker(0, 3), 1);
        Check.runText(gatherer, "e");
        Check.due("a gatherer drops", gatherer.chips(0, 2), 99);
        ChipPilers hauler = new ChipPilers();
        hauler.addWalker(0, 0, 0, 1, 9);
        hauler.put(1, 0, 2);
        hauler.put(2, 0, 3);
        Check.runText(hauler, "s2");
        Check.due("a hauler drops both", hauler.chips(2, 0), 5);
        ChipPilers sweeper = new ChipPilers();
        sweeper.addWalker(7, 7, 0, 2, 9);
        sweeper.put(6, 7, 3);
        sweeper.put(0, 0, 3);
        sweeper.put(6, 6, 1);
        sweeper.put(6, 5, 9);
        Check.runText(sweeper, "n");
        Check.due("a sweeper leaves the greatest heap", sweeper.walker(0, 3), 0);
        sweeper.put(6, 6, 0);
        Check.runText(sweeper, "sn");
        Check.due("a sweeper picks up of another", sweeper.walker(0, 3), 1);
    }

    private static void stepsCount() {
        Check.about("Plans: they count as steps of the walker, also for merges and splits");
        ChipPilers x = new ChipPilers();
        x.addWalker(0, 0, 0, 1, 9);
        x.put(0, 1, 1);
        x.put(0, 3, 1);
        x.put(0, 4, 1);
        x.put(1, 3, 1);
        Check.due("three", Check.runText(x, "e3"), 3);
        Check.due("steps", x.walker(0, 6), 3);
        Check.due("all steps", x.count(8), 3);
        Check.due("a merge", x.count(6), 1);
        Check.due("a split", x.count(7), 1);
    }

    private static void picksUpAsFarAsItCan() {
        Check.about("Plans: 'g' picks up so many chips, as far as there are chips and the capacity");
        // capacity, chips, number; pocket then
        int[][] rows = {{9, 0, 5, 0}, {9, 5, 4, 4}, {9, 5, 5, 5}, {9, 5, 6, 5}, {9, 99, 8, 8}, {9, 99, 9, 9},
            {9, 99, 10, 9}, {1, 99, 50, 1}, {1, 1, 1, 1}, {9, 1, 50, 1}, {4, 3, 50, 3}, {3, 4, 50, 3}};
        for (int[] row : rows) {
            ChipPilers x = new ChipPilers();
            x.addWalker(3, 3, 0, 0, row[0]);
            x.put(3, 3, row[1]);
            String call = "capacity " + row[0] + " chips " + row[1] + " g" + row[2];
            Check.due(call, Check.runText(x, "g" + row[2]), 0);
            Check.due(call + ": pocket", x.walker(0, 3), row[3]);
            Check.due(call + ": chips", x.chips(3, 3), row[1] - row[3]);
            Check.due(call + ": picked up", x.walker(0, 7), row[3]);
            Check.due(call + ": dropped", x.walker(0, 8), 0);
            Check.due(call + ": again and no more", Check.runText(x, "g50g50"), 0);
            Check.due(call + ": pocket", x.walker(0, 3), Math.min(row[0], row[1]));
        }
    }

    private static void dropsAsFarAsItCan() {
        Check.about("Plans: 'd' drops so many, as far as there are chips and room");
        // pocket, chips, number; dropped then
        int[][] rows = {{0, 0, 5, 0}, {0, 50, 5, 0}, {5, 0, 4, 4}, {5, 0, 5, 5}, {5, 0, 6, 5}, {9, 0, 50, 9},
            {9, 90, 50, 9}, {9, 91, 50, 8}, {9, 98, 50, 1}, {9, 99, 50, 0}, {9, 98, 1, 1}, {9, 97, 1, 1}, {1, 99, 1, 0}};
        for (int[] row : rows) {
            ChipPilers x = new ChipPilers();
            x.addWalker(3, 3, 0, 0, 9);
            x.put(3, 3, row[0]);
            Check.runText(x, "g9");
            x.put(3, 3, row[1]);
            String call = "pocket " + row[0] + " chips " + row[1] + " d" + row[2];
            Check.due(call, Check.runText(x, "d" + row[2]), 0);
            Check.due(call + ": pocket", x.walker(0, 3), row[0] - row[3]);
            Check.due(call + ": chips", x.chips(3, 3), row[1] + row[3]);
            Check.due(call + ": picked up", x.walker(0, 7), row[0]);
            Check.due(call + ": dropped", x.walker(0, 8), row[3]);
        }
    }

    private static void picksUpAndDropsByNoSort() {
        Check.about("Plans: 'g' and 'd' each (by no sort, without a step or a turn)");
        for (int sort = 0; sort <= 2; sort++) {
            ChipPilers x = new ChipPilers();
            x.addTurn(5);
            x.addTurn(5);
            x.addWalker(3, 3, 2, sort, 9);
            x.put(3, 3, 9);
            Check.due("run", Check.runText(x, "g7d5"), 0);
            Check.due("pocket", x.walker(0, 3), 2);
            Check.due("chips", x.chips(3, 3), 7);
            Check.due("direction", x.walker(0, 2), 2);
            Check.due("place", x.count(9), 0);
            Check.due("steps", x.count(8), 0);
            Check.due("take all", Check.runText(x, "g50"), 0);
            Check.due("no merge", x.count(6), 0);
            Check.due("drop all", Check.runText(x, "d50"), 0);
            Check.due("no split", x.count(7), 0);
        }
    }

    private static void beginsWithWalker0() {
        Check.about("Plans: the present one (at the beginning of a plan this is the walker 0)");
        ChipPilers x = withWalkers(8);
        Check.due("two walkers", Check.runText(x, "n#7n2"), 3);
        Check.due("walker 7", x.walker(7, 6), 2);
        Check.due("the next plan", Check.runText(x, "n"), 1);
        Check.due("begins with walker 0", x.walker(0, 6), 2);
        Check.due("walker 7 again", x.walker(7, 6), 2);
    }

    private static void presentWalkerStays() {
        Check.about("Plans: '#' makes the walker with this number the present one");
        ChipPilers x = withWalkers(3);
        Check.due("run", Check.runText(x, "#2n#1ns#2r1e#0#1"), 7);
        int[] steps = {1, 3, 3};
        for (int walker = 0; walker < 3; walker++) {
            Check.due("steps of " + walker, x.walker(walker, 6), steps[walker]);
        }
    }

    private static void returnsAllSteps() {
        Check.about("14: returns the number of steps that are made by this (by all walkers)");
        ChipPilers x = withWalkers(8);
        x.walk(3, 5);
        Check.due("none by '#'", Check.runText(x, "#3"), 0);
        Check.due("the longest plan", Check.runText(x, "r50r50r50r50r50r50r50r50r50r50r50r50r50r"), 5208);
        Check.due("all steps", x.count(8), 5213);
        Check.due("the same again", x.run(), 5208);
        ChipPilers y = withWalkers(2);
        Check.due("orders that are cut short", Check.runText(y, "n9r3#1s1"), 11);
    }

    private static void isOneAct() {
        Check.about("14: this is one act");
        ChipPilers x = withWalkers(1);
        x.put(4, 4, 9);
        Check.due("six orders", Check.runText(x, "g3n2r5d1s1e50"), 8);
        Check.due("states", x.count(11), 3);
        Check.due("undo", x.undo(), 2);
        Check.due("steps", x.count(8), 0);
        Check.due("pocket", x.walker(0, 3), 0);
        Check.due("row", x.walker(0, 0), 4);
        Check.due("chips", x.chips(4, 4), 9);
    }

    private static void textStays() {
        Check.about("14: carries out the plan of the text, which stays");
        ChipPilers x = withWalkers(1);
        Check.due("run", Check.runText(x, "s"), 1);
        Check.due("length", x.count(12), 1);
        Check.due("again", x.run(), 1);
        Check.due("typing goes on", x.type('2'), 2);
        Check.due("run then", x.run(), 1);
        Check.due("row", x.walker(0, 0), 7);
    }
}
