import java.util.List;

/** The edges of history, of errors and of promises 15 to 17: a test for each sentence that names one. */
public final class HistoryEdgesTest {
    /** One call of an object. */
    private interface Call {
        int of(ChipPilers x);
    }

    private static final int LEAST = Integer.MIN_VALUE;
    private static final int MOST = Integer.MAX_VALUE;

    public static void main(String[] args) {
        undoOfAnEmptyHistory();
        fiveStates();
        oldestIsDropped();
        undoRemovesTheLatest();
        undoIsNoAct();
        eachActRecords();
        eachActIsUndone();
        otherCallsRecordNothing();
        stateIsEverything();
        slotsOfKeep();
        slotsOfRestore();
        slotsAreEmptyAtFirst();
        keepsInPlaceOfWhatIsThere();
        snapshotStays();
        snapshotsAreNoPartOfTheState();
        historyIsNoPartOfTheState();
        restoreIsAnAct();
        refusedCallsOfTheBoard();
        refusedCallsOfWalkers();
        refusedCallsOfTheRest();
        callsThatAnswerNone();
        Check.end();
    }

    /**
     * A board of all kinds of things, with two states in its history, snapshot 0 taken and a plan as text.
     * Walker 1 has chips in its pocket, walker 2 has none.
     */
    private static ChipPilers rich() {
        ChipPilers x = new ChipPilers();
        x.reset(4, 5);
        x.addTurn(5);
        x.addTurn(0);
        x.addTurn(7);
        x.addWalker(0, 0, 1, 0, 2);
        x.addWalker(3, 4, 3, 1, 9);
        x.addWalker(2, 2, 0, 2, 1);
        x.strew(1, 2, 3);
        x.put(1, 1, 5);
        x.put(0, 4, 99);
        x.rounds(2);
        x.walk(1, 2);
        x.keep(0);
        for (int times = 0; times < 4; times++) {
            x.undo();
        }
        x.restore(0);
        x.type('r');
        x.type('2');
        Check.due("states of the rich board", x.count(11), 2);
        return x;
    }

    private static void undoOfAnEmptyHistory() {
        Check.about("15: NONE if the history is empty");
        ChipPilers x = new ChipPilers();
        Check.due("a new object", x.undo(), ChipPilers.NONE);
        x.put(0, 0, 1);
        Check.due("one state", x.undo(), 0);
        Check.due("none again", x.undo(), ChipPilers.NONE);
        Check.due("and again", x.undo(), ChipPilers.NONE);
        Check.due("states", x.count(11), 0);
        Check.due("chips", x.chips(0, 0), 0);
    }

    private static void fiveStates() {
        Check.about("History: a history of at most 5 states is kept");
        ChipPilers x = new ChipPilers();
        for (int chips = 1; chips <= 5; chips++) {
            x.put(0, 0, chips);
            Check.due("states", x.count(11), chips);
        }
        for (int chips = 4; chips >= 0; chips--) {
            Check.due("states that are left", x.undo(), chips);
            Check.due("chips", x.chips(0, 0), chips);
        }
        Check.due("the first state is restored, too", x.undo(), ChipPilers.NONE);
    }

    private static void oldestIsDropped() {
        Check.about("History: when one more is recorded, the oldest one is dropped");
        for (int more = 1; more <= 12; more++) {
            ChipPilers x = new ChipPilers();
            for (int chips = 1; chips <= 5 + more; chips++) {
                x.put(0, 0, chips);
            }
            Check.due("states", x.count(11), 5);
            for (int left = 4; left >= 0; left--) {
                Check.due("states that are left", x.undo(), left);
                Check.due("chips", x.chips(0, 0), left + more);
            }
            Check.due("no more", x.undo(), ChipPilers.NONE);
            Check.due("chips stay", x.chips(0, 0), more);
        }
    }

    private static void undoRemovesTheLatest() {
        Check.about("History: undo() removes and restores the latest one");
        ChipPilers x = new ChipPilers();
        for (int chips = 1; chips <= 7; chips++) {
            x.put(0, 0, chips);
        }
        Check.due("undo", x.undo(), 4);
        Check.due("6", x.chips(0, 0), 6);
        x.put(0, 0, 50);
        Check.due("5 again", x.count(11), 5);
        x.put(0, 0, 60);
        Check.due("5 still", x.count(11), 5);
        int[] chips = {50, 6, 5, 4, 3};
        for (int index = 0; index < 5; index++) {
            Check.due("undo", x.undo(), 4 - index);
            Check.due("chips", x.chips(0, 0), chips[index]);
        }
        Check.due("empty", x.undo(), ChipPilers.NONE);
    }

    private static void undoIsNoAct() {
        Check.about("15: restores the latest state (and is not described as an act)");
        ChipPilers x = new ChipPilers();
        x.put(0, 0, 1);
        x.put(0, 0, 2);
        Check.due("undo", x.undo(), 1);
        Check.due("the next goes further back", x.undo(), 0);
        Check.due("chips", x.chips(0, 0), 0);
    }

    private static final String[] ACTS = {"reset", "put", "strew", "addWalker", "setSort", "empty", "addTurn",
        "clearTurns", "walk", "rounds", "run", "restore"};

    private static final Call[] ACT_CALLS = {x -> x.reset(4, 5), x -> x.put(0, 0, x.chips(0, 0)), x -> x.strew(1, 1, 1),
        x -> x.addWalker(0, 0, 0, 0, 1), x -> x.setSort(0, x.walker(0, 5)), x -> x.empty(1), x -> x.addTurn(0),
        x -> x.clearTurns(), x -> x.walk(0, 1), x -> x.rounds(1), x -> x.run(), x -> x.restore(0)};

    private static void eachActRecords() {
        Check.about("History: each call described as an act, that returns no error and not NONE, records the state");
        for (int act = 0; act < ACTS.length; act++) {
            ChipPilers x = rich();
            Check.due(ACTS[act] + " returns no error", Math.min(ACT_CALLS[act].of(x), 0), 0);
            Check.due("states behind " + ACTS[act], x.count(11), 3);
        }
    }

    private static void eachActIsUndone() {
        Check.about("History: records the state before it");
        for (int act = 0; act < ACTS.length; act++) {
            ChipPilers x = rich();
            List<Integer> before = Told.state(x);
            ACT_CALLS[act].of(x);
            Check.due("undo of " + ACTS[act], x.undo(), 2);
            Told.same("behind undo of " + ACTS[act], Told.state(x), before);
        }
    }

    private static void otherCallsRecordNothing() {
        Check.about("History: calls that are not described as an act record nothing");
        String[] names = {"type", "clearText", "keep", "chips", "walker", "heap", "heapOf", "roundsUntil", "turn", "count"};
        Call[] calls = {x -> x.type('n'), x -> x.clearText(), x -> x.keep(1), x -> x.chips(0, 0), x -> x.walker(0, 0),
            x -> x.heap(0, 0), x -> x.heapOf(0, 0), x -> x.roundsUntil(1), x -> x.turn(0), x -> x.count(3)};
        for (int index = 0; index < calls.length; index++) {
            ChipPilers x = rich();
            List<Integer> before = Told.state(x);
            calls[index].of(x);
            Check.due("states behind " + names[index], x.count(11), 2);
            Told.same("behind " + names[index], Told.state(x), before);
        }
    }

    private static void stateIsEverything() {
        Check.about("History: a state is everything but the text, the history and the snapshots");
        ChipPilers x = rich();
        List<Integer> before = Told.state(x);
        x.keep(1);
        x.reset(16, 2);
        x.clearTurns();
        x.addWalker(15, 1, 2, 2, 5);
        x.strew(3, 1, 2);
        x.walk(0, 30);
        x.restore(1);
        Told.same("behind restore", Told.state(x), before);
        x.undo();
        Check.due("rows behind undo", x.count(0), 16);
        Check.due("walkers behind undo", x.count(2), 1);
        Check.due("numbers of turns behind undo", x.count(10), 1);
        Check.due("steps behind undo", x.count(8), 30);
    }

    private static void slotsOfKeep() {
        Check.about("16: slot: 0 or 1; UNKNOWN");
        ChipPilers x = new ChipPilers();
        x.put(0, 0, 7);
        for (int slot : new int[] {LEAST, -1, 2, 3, MOST}) {
            Check.due("keep " + slot, x.keep(slot), ChipPilers.UNKNOWN);
        }
        Check.due("slot 0 is empty", x.restore(0), ChipPilers.NONE);
        Check.due("slot 1 is empty", x.restore(1), ChipPilers.NONE);
        Check.due("keep 0", x.keep(0), 7);
        Check.due("keep 1", x.keep(1), 7);
    }

    private static void slotsOfRestore() {
        Check.about("17: slot: 0 or 1; UNKNOWN");
        ChipPilers x = new ChipPilers();
        x.keep(0);
        x.keep(1);
        for (int slot : new int[] {LEAST, -1, 2, 3, MOST}) {
            Check.due("restore " + slot, x.restore(slot), ChipPilers.UNKNOWN);
        }
        Check.due("no act", x.count(11), 0);
        Check.due("restore 0", x.restore(0), 0);
        Check.due("restore 1", x.restore(1), 0);
    }

    private static void slotsAreEmptyAtFirst() {
        Check.about("17: NONE if there is no such snapshot");
        for (int slot = 0; slot <= 1; slot++) {
            ChipPilers x = new ChipPilers();
            x.put(3, 3, 3);
            Check.due("restore of an empty slot", x.restore(slot), ChipPilers.NONE);
            x.keep(1 - slot);
            Check.due("the other one is taken", x.restore(slot), ChipPilers.NONE);
            Check.due("no act", x.count(11), 1);
            Check.due("chips stay", x.chips(3, 3), 3);
            Check.due("restore of the other one", x.restore(1 - slot), 3);
        }
    }

    private static void keepsInPlaceOfWhatIsThere() {
        Check.about("16: takes a snapshot of the state, in place of what is there; returns the chips on the board");
        ChipPilers x = new ChipPilers();
        Check.due("none", x.keep(0), 0);
        x.put(0, 0, 9);
        x.addWalker(0, 0, 0, 0, 9);
        Check.runText(x, "g4");
        Check.due("without those in pockets", x.keep(1), 5);
        Check.due("in place of the first", x.keep(0), 5);
        x.put(7, 7, 99);
        Check.due("in place again", x.keep(1), 104);
        Check.due("restore 0", x.restore(0), 5);
        Check.due("pocket", x.walker(0, 3), 4);
        Check.due("restore 1", x.restore(1), 104);
    }

    private static void snapshotStays() {
        Check.about("17: restores the state of a snapshot, which stays");
        ChipPilers x = new ChipPilers();
        x.put(0, 0, 9);
        x.keep(0);
        for (int times = 1; times <= 7; times++) {
            Check.due("restore", x.restore(0), 9);
            x.put(0, 0, times);
            x.addWalker(0, 0, 0, 0, 1);
            x.addTurn(9);
            x.walk(0, 3);
        }
        Check.due("restore", x.restore(0), 9);
        Check.due("walkers", x.count(2), 0);
        Check.due("numbers of turns", x.count(10), 1);
        Check.due("steps", x.count(8), 0);
    }

    private static void snapshotsAreNoPartOfTheState() {
        Check.about("History: a state is everything but the snapshots");
        ChipPilers x = new ChipPilers();
        x.put(0, 0, 1);
        x.keep(0);
        x.undo();
        Check.due("undo leaves the snapshot", x.restore(0), 1);
        x.keep(1);
        x.put(0, 0, 2);
        x.keep(0);
        Check.due("restore 1", x.restore(1), 1);
        Check.due("leaves snapshot 0", x.restore(0), 2);
        x.reset(2, 2);
        Check.due("so does reset", x.restore(1), 1);
    }

    private static void historyIsNoPartOfTheState() {
        Check.about("History: a state is everything but the history");
        ChipPilers x = new ChipPilers();
        x.keep(0);
        x.put(0, 0, 1);
        x.put(0, 0, 2);
        x.restore(0);
        Check.due("states behind restore", x.count(11), 3);
        x.reset(2, 2);
        Check.due("states behind reset", x.count(11), 4);
        Check.due("undo", x.undo(), 3);
        Check.due("undo", x.undo(), 2);
        Check.due("chips", x.chips(0, 0), 2);
    }

    private static void restoreIsAnAct() {
        Check.about("17: this is an act; returns the number of chips on the board then");
        ChipPilers x = new ChipPilers();
        x.put(0, 0, 3);
        x.keep(1);
        x.put(0, 1, 4);
        Check.due("restore", x.restore(1), 3);
        Check.due("states", x.count(11), 3);
        Check.due("the same again is an act, too", x.restore(1), 3);
        Check.due("states", x.count(11), 4);
        x.undo();
        x.undo();
        Check.due("chips behind two undos", x.count(3), 7);
    }

    /** A refused call leaves the object as a twin that wasn't called, now and behind undo, restore and run. */
    private static void refused(String name, Call call, int answer) {
        ChipPilers x = rich();
        ChipPilers twin = rich();
        Check.due(name, call.of(x), answer);
        Told.same("behind " + name, Told.state(x), Told.state(twin));
        Check.due("states behind " + name, x.count(11), twin.count(11));
        Check.due("text behind " + name, x.count(12), twin.count(12));
        Check.due("run behind " + name, x.run(), twin.run());
        Check.due("undo behind " + name, x.undo() + x.undo(), twin.undo() + twin.undo());
        Told.same("undone behind " + name, Told.state(x), Told.state(twin));
        Check.due("restore 0 behind " + name, x.restore(0), twin.restore(0));
        Check.due("restore 1 behind " + name, x.restore(1), twin.restore(1));
    }

    private static void refusedCallsOfTheBoard() {
        Check.about("Errors: a call that reports an error or NONE changes nothing");
        refused("reset(1, 5)", x -> x.reset(1, 5), ChipPilers.BAD_VALUE);
        refused("reset(5, 17)", x -> x.reset(5, 17), ChipPilers.BAD_VALUE);
        refused("put(4, 0, 1)", x -> x.put(4, 0, 1), ChipPilers.UNKNOWN);
        refused("put(0, 0, 100)", x -> x.put(0, 0, 100), ChipPilers.BAD_VALUE);
        refused("strew(0, 0, 21)", x -> x.strew(0, 0, 21), ChipPilers.BAD_VALUE);
        refused("chips(4, 0)", x -> x.chips(4, 0), ChipPilers.UNKNOWN);
        refused("heap(-1, 0)", x -> x.heap(-1, 0), ChipPilers.BAD_VALUE);
        refused("heapOf(0, 5)", x -> x.heapOf(0, 5), ChipPilers.UNKNOWN);
        refused("roundsUntil(257)", x -> x.roundsUntil(257), ChipPilers.BAD_VALUE);
        refused("count(13)", x -> x.count(13), ChipPilers.BAD_VALUE);
    }

    private static void refusedCallsOfWalkers() {
        Check.about("Errors: a call that reports an error or NONE changes nothing");
        refused("addWalker(4, 0, 0, 0, 1)", x -> x.addWalker(4, 0, 0, 0, 1), ChipPilers.UNKNOWN);
        refused("addWalker(0, 0, 4, 0, 1)", x -> x.addWalker(0, 0, 4, 0, 1), ChipPilers.BAD_VALUE);
        refused("setSort(3, 0)", x -> x.setSort(3, 0), ChipPilers.UNKNOWN);
        refused("setSort(0, 3)", x -> x.setSort(0, 3), ChipPilers.BAD_VALUE);
        refused("empty(3)", x -> x.empty(3), ChipPilers.UNKNOWN);
        refused("addTurn(10)", x -> x.addTurn(10), ChipPilers.BAD_VALUE);
        refused("walk(3, 1)", x -> x.walk(3, 1), ChipPilers.UNKNOWN);
        refused("walk(0, 101)", x -> x.walk(0, 101), ChipPilers.BAD_VALUE);
        refused("rounds(51)", x -> x.rounds(51), ChipPilers.BAD_VALUE);
        refused("walker(3, 0)", x -> x.walker(3, 0), ChipPilers.UNKNOWN);
        refused("walker(0, 9)", x -> x.walker(0, 9), ChipPilers.BAD_VALUE);
        refused("turn(-1)", x -> x.turn(-1), ChipPilers.BAD_VALUE);
    }

    private static void refusedCallsOfTheRest() {
        Check.about("Errors: a call that reports an error or NONE changes nothing");
        refused("keep(2)", x -> x.keep(2), ChipPilers.UNKNOWN);
        refused("restore(-1)", x -> x.restore(-1), ChipPilers.UNKNOWN);
        ChipPilers x = rich();
        List<Integer> before = Told.state(x);
        Check.due("run of a text with a fault", Check.runText(x, "e2r2g1d1x"), -108);
        Told.same("behind run", Told.state(x), before);
        Check.due("states behind run", x.count(11), 2);
        Check.text(x, "rrrrrrrrrrrrrrrrrrrrrrrrrrrrrrrrrrrrrrrr");
        Check.due("type", x.type('x'), ChipPilers.FULL);
        Check.due("length behind type", x.count(12), 40);
        Told.same("behind type", Told.state(x), before);
    }

    private static void callsThatAnswerNone() {
        Check.about("Errors: NONE is not an error, but changes nothing either");
        refused("heap(99, 0)", x -> x.heap(99, 0), ChipPilers.NONE);
        refused("restore(1)", x -> x.restore(1), ChipPilers.NONE);
        refused("turn(3)", x -> x.turn(3), ChipPilers.NONE);
        refused("empty(2)", x -> x.empty(2), ChipPilers.NONE);
        ChipPilers none = new ChipPilers();
        none.put(0, 0, 1);
        Check.due("rounds without walkers", none.rounds(5), ChipPilers.NONE);
        Check.due("roundsUntil without walkers", none.roundsUntil(0), ChipPilers.NONE);
        Check.due("heapOf without chips", none.heapOf(0, 1), ChipPilers.NONE);
        Check.due("states", none.count(11), 1);
        Check.due("undo", none.undo(), 0);
        Check.due("undo of none", none.undo(), ChipPilers.NONE);
        Check.due("chips", none.count(3), 0);
    }
}
