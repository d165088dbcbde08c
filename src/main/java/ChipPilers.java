import java.util.Arrays;

/** Walkers that pile chips on a board of rows and columns, as ../shared/DOC.md promises. */
public final class ChipPilers {
    public static final int UNKNOWN = -1;
    public static final int BAD_VALUE = -2;
    public static final int FULL = -3;
    public static final int NOT_POSSIBLE = -4;
    public static final int NONE = -5;

    private static final int LEAST_SIDE = 2;
    private static final int MOST_SIDE = 16;
    private static final int FIRST_SIDE = 8;
    private static final int CELLS = 256;
    private static final int MOST_CHIPS = 99;
    private static final int MOST_WALKERS = 8;
    private static final int MOST_CAPACITY = 9;
    private static final int MOST_TURNS = 30;
    private static final int MOST_HEAPS = 128;
    private static final int MOST_WALK = 100;
    private static final int MOST_ROUNDS = 50;
    private static final int MOST_TRIED_ROUNDS = 200;
    private static final int MOST_TEXT = 40;
    private static final int MOST_ORDER = 50;
    private static final int MOST_STATES = 5;
    private static final int SLOTS = 2;
    private static final int FAULT_BASE = -100;
    private static final int NORTH = 0;
    private static final int EAST = 1;
    private static final int SOUTH = 2;
    private static final int WEST = 3;
    private static final int GATHERER = 0;
    private static final int HAULER = 1;

    private final World world;
    private final History history;
    private final Plan plan;
    private final Slot[] slots;
    private final State aside;

    public ChipPilers() {
        world = new World();
        history = new History();
        plan = new Plan();
        slots = new Slot[SLOTS];
        for (int slot = 0; slot < SLOTS; slot++) {
            slots[slot] = new Slot();
        }
        aside = new State();
    }

    // ---- board

    public int reset(int rows, int columns) {
        if (!isBetween(rows, LEAST_SIDE, MOST_SIDE) || !isBetween(columns, LEAST_SIDE, MOST_SIDE)) {
            return BAD_VALUE;
        }
        history.record(world.state);
        world.clearBoard(rows, columns);
        return rows * columns;
    }

    public int put(int row, int column, int chips) {
        int cell = world.state.cellAt(row, column);
        if (cell < 0) {
            return UNKNOWN;
        }
        if (!isBetween(chips, 0, MOST_CHIPS)) {
            return BAD_VALUE;
        }
        int before = world.state.chipsOf(cell);
        history.record(world.state);
        world.setChips(cell, chips);
        return before;
    }

    public int strew(int a, int b, int m) {
        if (!isBetween(a, 0, 9) || !isBetween(b, 0, 9) || !isBetween(m, 1, 20)) {
            return BAD_VALUE;
        }
        // An act is recorded ahead of its change, so whether a chip comes must be known first.
        int coming = world.strewOver(a, b, m, false);
        if (coming == 0) {
            return NONE;
        }
        history.record(world.state);
        world.strewOver(a, b, m, true);
        return coming;
    }

    // ---- walkers

    public int addWalker(int row, int column, int direction, int sort, int capacity) {
        if (world.state.cellAt(row, column) < 0) {
            return UNKNOWN;
        }
        if (!isBetween(direction, NORTH, WEST) || !isSort(sort) || !isBetween(capacity, 1, MOST_CAPACITY)) {
            return BAD_VALUE;
        }
        int number = world.state.walkerCount;
        if (number >= MOST_WALKERS) {
            return FULL;
        }
        history.record(world.state);
        world.state.walkerCount = number + 1;
        Walker added = world.state.walkerAt(number);
        if (added != null) {
            added.begin(row, column, direction, sort, capacity);
        }
        return number;
    }

    public int setSort(int walker, int sort) {
        Walker chosen = world.state.walkerAt(walker);
        if (chosen == null) {
            return UNKNOWN;
        }
        if (!isSort(sort)) {
            return BAD_VALUE;
        }
        int before = chosen.sort;
        history.record(world.state);
        chosen.sort = sort;
        return before;
    }

    public int empty(int walker) {
        Walker chosen = world.state.walkerAt(walker);
        if (chosen == null) {
            return UNKNOWN;
        }
        if (world.chipsUnder(chosen) + chosen.pocket > MOST_CHIPS) {
            return NOT_POSSIBLE;
        }
        if (chosen.pocket == 0) {
            return NONE;
        }
        history.record(world.state);
        world.pickUp(chosen, -chosen.pocket);
        return world.chipsUnder(chosen);
    }

    public int addTurn(int number) {
        if (!isBetween(number, 0, 9)) {
            return BAD_VALUE;
        }
        if (world.state.turns.size >= MOST_TURNS) {
            return FULL;
        }
        history.record(world.state);
        world.state.turns.append(number);
        return world.state.turns.size;
    }

    public int clearTurns() {
        int before = world.state.turns.size;
        history.record(world.state);
        world.state.turns.begin();
        return before;
    }

    // ---- walking

    public int walk(int walker, int steps) {
        Walker chosen = world.state.walkerAt(walker);
        if (chosen == null) {
            return UNKNOWN;
        }
        if (!isBetween(steps, 1, MOST_WALK)) {
            return BAD_VALUE;
        }
        history.record(world.state);
        for (int step = 0; step < steps; step++) {
            world.makeStep(chosen);
        }
        return chosen.pocket;
    }

    public int rounds(int rounds) {
        if (!isBetween(rounds, 1, MOST_ROUNDS)) {
            return BAD_VALUE;
        }
        if (world.state.walkerCount == 0) {
            return NONE;
        }
        history.record(world.state);
        world.makeRounds(rounds);
        return world.heaps.numberIn(world.state.chips);
    }

    // ---- plans

    public int type(char character) {
        if (!plan.append(character)) {
            return FULL;
        }
        return plan.length;
    }

    public int clearText() {
        int before = plan.length;
        plan.length = 0;
        return before;
    }

    public int run() {
        int fault = plan.readOrders(world.state.walkerCount);
        if (fault >= 0) {
            return FAULT_BASE - fault;
        }
        history.record(world.state);
        int before = world.state.allSteps();
        Walker present = world.state.walkerAt(0);
        for (int order = 0; order < plan.orderCount; order++) {
            char letter = plan.letterOf(order);
            int number = plan.numberOf(order);
            if (letter == '#') {
                present = world.state.walkerAt(number);
            } else if (letter == 'r') {
                world.makeRounds(number);
            } else if (present != null) {
                world.obey(present, letter, number);
            }
        }
        return world.state.allSteps() - before;
    }

    // ---- history

    public int undo() {
        State latest = history.takeLatest();
        if (latest == null) {
            return NONE;
        }
        world.load(latest);
        return history.size;
    }

    public int keep(int slot) {
        Slot chosen = slotAt(slot);
        if (chosen == null) {
            return UNKNOWN;
        }
        chosen.snapshot.copyFrom(world.state);
        chosen.taken = true;
        return world.state.allChips();
    }

    public int restore(int slot) {
        Slot chosen = slotAt(slot);
        if (chosen == null) {
            return UNKNOWN;
        }
        if (!chosen.taken) {
            return NONE;
        }
        history.record(world.state);
        world.load(chosen.snapshot);
        return world.state.allChips();
    }

    // ---- what is told

    public int chips(int row, int column) {
        int cell = world.state.cellAt(row, column);
        if (cell < 0) {
            return UNKNOWN;
        }
        return world.state.chipsOf(cell);
    }

    public int walker(int walker, int what) {
        Walker chosen = world.state.walkerAt(walker);
        if (chosen == null) {
            return UNKNOWN;
        }
        switch (what) {
            case 0: return chosen.row;
            case 1: return chosen.column;
            case 2: return chosen.direction;
            case 3: return chosen.pocket;
            case 4: return chosen.capacity;
            case 5: return chosen.sort;
            case 6: return chosen.steps;
            case 7: return chosen.picked;
            case 8: return chosen.dropped;
            default: return BAD_VALUE;
        }
    }

    public int heap(int place, int what) {
        if (place < 0 || !isBetween(what, 0, 4)) {
            return BAD_VALUE;
        }
        Heaps heaps = world.heaps;
        if (place >= heaps.numberIn(world.state.chips)) {
            return NONE;
        }
        int heap = heaps.heapAt(place);
        if (heap < 0 || heap >= MOST_HEAPS) {
            return NONE;
        }
        switch (what) {
            case 0: return heaps.sizes[heap];
            case 1: return heaps.cellCounts[heap];
            case 2: return heaps.firstCells[heap] / MOST_SIDE;
            case 3: return heaps.firstCells[heap] % MOST_SIDE;
            default: return heaps.mostChips(world.state.chips, heap);
        }
    }

    public int heapOf(int row, int column) {
        int cell = world.state.cellAt(row, column);
        if (cell < 0) {
            return UNKNOWN;
        }
        if (world.state.chipsOf(cell) == 0) {
            return NONE;
        }
        world.heaps.numberIn(world.state.chips);
        return world.heaps.placeOf(world.heaps.heapWith(cell));
    }

    public int roundsUntil(int heaps) {
        if (!isBetween(heaps, 0, CELLS)) {
            return BAD_VALUE;
        }
        if (world.heaps.numberIn(world.state.chips) <= heaps) {
            return 0;
        }
        if (world.state.walkerCount == 0) {
            return NONE;
        }
        aside.copyFrom(world.state);
        int answer = NONE;
        for (int round = 1; round <= MOST_TRIED_ROUNDS && answer == NONE; round++) {
            world.makeRounds(1);
            if (world.heaps.numberIn(world.state.chips) <= heaps) {
                answer = round;
            }
        }
        world.load(aside);
        return answer;
    }

    public int turn(int index) {
        if (index < 0) {
            return BAD_VALUE;
        }
        Turns turns = world.state.turns;
        if (index >= turns.size || index >= MOST_TURNS) {
            return NONE;
        }
        return turns.numbers[index];
    }

    public int count(int what) {
        State state = world.state;
        switch (what) {
            case 0: return state.rows;
            case 1: return state.columns;
            case 2: return state.walkerCount;
            case 3: return state.allChips();
            case 4: return state.allPockets();
            case 5: return world.heaps.numberIn(state.chips);
            case 6: return state.merges;
            case 7: return state.splits;
            case 8: return state.allSteps();
            case 9: return state.turns.place;
            case 10: return state.turns.size;
            case 11: return history.size;
            case 12: return plan.length;
            default: return BAD_VALUE;
        }
    }

    private static boolean isBetween(int value, int least, int most) {
        return value >= least && value <= most;
    }

    private static boolean isSort(int value) {
        return isBetween(value, 0, 2);
    }

    private Slot slotAt(int number) {
        if (number < 0 || number >= slots.length) {
            return null;
        }
        return slots[number];
    }

    /** A walker; its pocket never has more than its capacity. */
    private static final class Walker {
        int row;
        int column;
        int direction;
        int pocket;
        int capacity;
        int sort;
        int steps;
        int picked;
        int dropped;

        // A walker's room is used again after reset() and undo(), so all of it is set anew.
        void begin(int newRow, int newColumn, int newDirection, int newSort, int newCapacity) {
            row = newRow;
            column = newColumn;
            direction = newDirection;
            pocket = 0;
            capacity = newCapacity;
            sort = newSort;
            steps = 0;
            picked = 0;
            dropped = 0;
        }

        int cell() {
            return row * MOST_SIDE + column;
        }

        void copyFrom(Walker other) {
            row = other.row;
            column = other.column;
            direction = other.direction;
            pocket = other.pocket;
            capacity = other.capacity;
            sort = other.sort;
            steps = other.steps;
            picked = other.picked;
            dropped = other.dropped;
        }
    }

    /** The row of numbers that stands for chance. */
    private static final class Turns {
        final int[] numbers = new int[MOST_TURNS];
        int size = 1;
        int place = 0;
        // The lone 0 of the beginning gives way to the first number that is added, a lone 0 that was added doesn't.
        boolean replaceable = true;

        void begin() {
            numbers[0] = 0;
            size = 1;
            place = 0;
            replaceable = true;
        }

        void append(int number) {
            if (replaceable) {
                size = 0;
                replaceable = false;
            }
            if (size >= 0 && size < numbers.length) {
                numbers[size] = number;
                size++;
            }
            place = 0;
        }

        int takeNext() {
            if (place < 0 || place >= numbers.length) {
                return 0;
            }
            int number = numbers[place];
            place++;
            if (place >= size) {
                place = 0;
            }
            return number;
        }

        void copyFrom(Turns other) {
            System.arraycopy(other.numbers, 0, numbers, 0, MOST_TURNS);
            size = other.size;
            place = other.place;
            replaceable = other.replaceable;
        }
    }

    /**
     * All that history and snapshots hold.
     * Cells are kept in rows of 16 on every board; those outside the board never have chips.
     */
    private static final class State {
        int rows = FIRST_SIDE;
        int columns = FIRST_SIDE;
        final int[] chips = new int[CELLS];
        final Walker[] walkers = new Walker[MOST_WALKERS];
        int walkerCount = 0;
        final Turns turns = new Turns();
        int merges = 0;
        int splits = 0;

        State() {
            for (int number = 0; number < MOST_WALKERS; number++) {
                walkers[number] = new Walker();
            }
        }

        void copyFrom(State other) {
            rows = other.rows;
            columns = other.columns;
            System.arraycopy(other.chips, 0, chips, 0, CELLS);
            walkerCount = other.walkerCount;
            for (int number = 0; number < walkerCount; number++) {
                Walker mine = walkerAt(number);
                Walker its = other.walkerAt(number);
                if (mine != null && its != null) {
                    mine.copyFrom(its);
                }
            }
            turns.copyFrom(other.turns);
            merges = other.merges;
            splits = other.splits;
        }

        boolean hasCell(int row, int column) {
            return row >= 0 && row < rows && column >= 0 && column < columns;
        }

        int cellAt(int row, int column) {
            return hasCell(row, column) ? row * MOST_SIDE + column : -1;
        }

        int chipsOf(int cell) {
            return cell >= 0 && cell < chips.length ? chips[cell] : 0;
        }

        Walker walkerAt(int number) {
            if (number < 0 || number >= walkerCount || number >= walkers.length) {
                return null;
            }
            return walkers[number];
        }

        int allChips() {
            int sum = 0;
            for (int cell = 0; cell < chips.length; cell++) {
                sum += chips[cell];
            }
            return sum;
        }

        int allPockets() {
            int sum = 0;
            for (int number = 0; number < walkerCount; number++) {
                Walker walker = walkerAt(number);
                sum += walker == null ? 0 : walker.pocket;
            }
            return sum;
        }

        int allSteps() {
            int sum = 0;
            for (int number = 0; number < walkerCount; number++) {
                Walker walker = walkerAt(number);
                sum += walker == null ? 0 : walker.steps;
            }
            return sum;
        }
    }

    /**
     * The heaps of a board, numbered by their first cells.
     * Finding them anew is dear, so it is done only when a cell has come to a heap or left one.
     */
    private static final class Heaps {
        final int[] sizes = new int[MOST_HEAPS];
        final int[] cellCounts = new int[MOST_HEAPS];
        final int[] firstCells = new int[MOST_HEAPS];
        private final int[] heapOfCell = new int[CELLS];
        private final int[] found = new int[CELLS];
        private int number = 0;
        private boolean stale = true;

        void forget() {
            stale = true;
        }

        /** Keeps up with a cell's change; a heap whose cells stay only changes its size. */
        void follow(int cell, int before, int now) {
            if ((before == 0) != (now == 0)) {
                stale = true;
            }
            if (stale || cell < 0 || cell >= CELLS) {
                return;
            }
            int heap = heapOfCell[cell];
            if (heap >= 0 && heap < MOST_HEAPS) {
                sizes[heap] += now - before;
            }
        }

        /** Answers the number of heaps; what the other methods tell holds behind a call of this. */
        int numberIn(int[] chips) {
            if (!stale) {
                return number;
            }
            Arrays.fill(heapOfCell, -1);
            number = 0;
            for (int cell = 0; cell < CELLS && cell < chips.length; cell++) {
                if (chips[cell] > 0 && heapOfCell[cell] < 0 && number < MOST_HEAPS) {
                    findHeap(chips, cell, number);
                    number++;
                }
            }
            stale = false;
            return number;
        }

        private void findHeap(int[] chips, int first, int heap) {
            if (heap < 0 || heap >= MOST_HEAPS) {
                return;
            }
            sizes[heap] = 0;
            cellCounts[heap] = 0;
            firstCells[heap] = first;
            addCell(chips, first, heap);
            for (int next = 0; next < cellCounts[heap] && next < CELLS; next++) {
                for (int direction = NORTH; direction <= WEST; direction++) {
                    addCell(chips, neighbour(found[next], direction), heap);
                }
            }
        }

        /** Adds a cell to a heap if it has chips and belongs to no heap yet; its neighbours are looked at later. */
        private void addCell(int[] chips, int cell, int heap) {
            if (cell < 0 || cell >= CELLS || cell >= chips.length || heap < 0 || heap >= MOST_HEAPS) {
                return;
            }
            int count = cellCounts[heap];
            if (chips[cell] > 0 && heapOfCell[cell] < 0 && count >= 0 && count < CELLS) {
                heapOfCell[cell] = heap;
                found[count] = cell;
                cellCounts[heap] = count + 1;
                sizes[heap] += chips[cell];
            }
        }

        private static int neighbour(int cell, int direction) {
            int column = cell % MOST_SIDE;
            switch (direction) {
                case NORTH: return cell >= MOST_SIDE ? cell - MOST_SIDE : -1;
                case EAST: return column < MOST_SIDE - 1 ? cell + 1 : -1;
                case SOUTH: return cell < CELLS - MOST_SIDE ? cell + MOST_SIDE : -1;
                default: return column > 0 ? cell - 1 : -1;
            }
        }

        /** Answers the heap of a cell, or -1 if the cell has no chips. */
        int heapWith(int cell) {
            return cell >= 0 && cell < CELLS ? heapOfCell[cell] : -1;
        }

        int placeOf(int heap) {
            int place = 0;
            for (int other = 0; other < number; other++) {
                if (comesAhead(other, heap)) {
                    place++;
                }
            }
            return place;
        }

        int heapAt(int place) {
            for (int heap = 0; heap < number; heap++) {
                if (placeOf(heap) == place) {
                    return heap;
                }
            }
            return -1;
        }

        boolean isGreatest(int heap) {
            for (int other = 0; other < number; other++) {
                if (comesAhead(other, heap)) {
                    return false;
                }
            }
            return heap >= 0;
        }

        int mostChips(int[] chips, int heap) {
            int most = 0;
            for (int cell = 0; cell < CELLS && cell < chips.length; cell++) {
                if (heapOfCell[cell] == heap) {
                    most = Math.max(most, chips[cell]);
                }
            }
            return most;
        }

        private boolean comesAhead(int heap, int other) {
            if (heap < 0 || heap >= MOST_HEAPS || other < 0 || other >= MOST_HEAPS) {
                return false;
            }
            if (sizes[heap] != sizes[other]) {
                return sizes[heap] > sizes[other];
            }
            if (cellCounts[heap] != cellCounts[other]) {
                return cellCounts[heap] < cellCounts[other];
            }
            return heap < other;
        }
    }

    /** A room for a snapshot; there is none in it until it is taken. */
    private static final class Slot {
        final State snapshot = new State();
        boolean taken = false;
    }

    /** The present state, with its heaps and all that moves it on. */
    private static final class World {
        final State state = new State();
        final Heaps heaps = new Heaps();

        void load(State other) {
            state.copyFrom(other);
            heaps.forget();
        }

        void clearBoard(int rows, int columns) {
            state.rows = rows;
            state.columns = columns;
            Arrays.fill(state.chips, 0);
            state.walkerCount = 0;
            state.merges = 0;
            state.splits = 0;
            heaps.forget();
        }

        void setChips(int cell, int now) {
            if (cell < 0 || cell >= CELLS) {
                return;
            }
            int before = state.chips[cell];
            state.chips[cell] = now;
            heaps.follow(cell, before, now);
        }

        int chipsUnder(Walker walker) {
            return state.chipsOf(walker.cell());
        }

        /** Answers how many chips come; puts them only if it is told to. */
        int strewOver(int a, int b, int m, boolean puts) {
            int coming = 0;
            for (int row = 0; row < state.rows; row++) {
                for (int column = 0; column < state.columns; column++) {
                    int cell = state.cellAt(row, column);
                    int before = state.chipsOf(cell);
                    if (m > 0 && (row * a + column * b) % m == 0 && before < MOST_CHIPS) {
                        coming++;
                        if (puts) {
                            setChips(cell, before + 1);
                        }
                    }
                }
            }
            return coming;
        }

        /** Moves chips from a walker's cell to its pocket, or as many back if the number is negative. */
        void pickUp(Walker walker, int number) {
            setChips(walker.cell(), chipsUnder(walker) - number);
            walker.pocket += number;
            if (number > 0) {
                walker.picked += number;
            } else {
                walker.dropped -= number;
            }
        }

        void makeRounds(int rounds) {
            for (int round = 0; round < rounds; round++) {
                for (int number = 0; number < state.walkerCount; number++) {
                    Walker walker = state.walkerAt(number);
                    if (walker != null) {
                        makeStep(walker);
                    }
                }
            }
        }

        void makeStep(Walker walker) {
            int direction = turned(walker.direction, state.turns.takeNext());
            // A board of two rows and two columns has at most two walls around a cell.
            for (int tries = 0; tries < 3 && hasWall(walker, direction); tries++) {
                direction = toTheRight(direction, 1);
            }
            stepAhead(walker, direction);
        }

        void obey(Walker walker, char letter, int number) {
            int under = chipsUnder(walker);
            if (letter == 'g') {
                pickUp(walker, Math.min(number, Math.min(under, walker.capacity - walker.pocket)));
            } else if (letter == 'd') {
                pickUp(walker, -Math.min(number, Math.min(walker.pocket, MOST_CHIPS - under)));
            } else {
                int direction = directionOf(letter);
                for (int step = 0; step < number && !hasWall(walker, direction); step++) {
                    stepAhead(walker, direction);
                }
            }
        }

        private void stepAhead(Walker walker, int direction) {
            walker.direction = direction;
            walker.row = rowAhead(walker, direction);
            walker.column = columnAhead(walker, direction);
            walker.steps++;
            int before = heaps.numberIn(state.chips);
            pickUp(walker, pickedBySort(walker));
            int more = heaps.numberIn(state.chips) - before;
            state.splits += Math.max(more, 0);
            state.merges += Math.max(-more, 0);
        }

        /** Answers how many chips a walker picks up by its sort, negative if it drops. */
        private int pickedBySort(Walker walker) {
            int under = chipsUnder(walker);
            int pocket = walker.pocket;
            int room = walker.capacity - pocket;
            if (under == 0) {
                return 0;
            }
            if (walker.sort == GATHERER) {
                return pocket == 0 ? 1 : -Math.min(1, MOST_CHIPS - under);
            }
            if (walker.sort == HAULER) {
                return under <= 2 ? Math.min(under, room) : -Math.min(pocket, MOST_CHIPS - under);
            }
            int heap = heaps.heapWith(walker.cell());
            if (room > 0 && !heaps.isGreatest(heap)) {
                return 1;
            }
            return -Math.min(Math.min(1, pocket), MOST_CHIPS - under);
        }

        private boolean hasWall(Walker walker, int direction) {
            return !state.hasCell(rowAhead(walker, direction), columnAhead(walker, direction));
        }

        private static int rowAhead(Walker walker, int direction) {
            if (direction == NORTH) {
                return walker.row - 1;
            }
            return direction == SOUTH ? walker.row + 1 : walker.row;
        }

        private static int columnAhead(Walker walker, int direction) {
            if (direction == EAST) {
                return walker.column + 1;
            }
            return direction == WEST ? walker.column - 1 : walker.column;
        }

        private static int toTheRight(int direction, int quarters) {
            return (direction + quarters) % 4;
        }

        private static int turned(int direction, int number) {
            switch (number) {
                case 5:
                case 6: return toTheRight(direction, 1);
                case 7:
                case 8: return toTheRight(direction, 3);
                case 9: return toTheRight(direction, 2);
                default: return direction;
            }
        }

        private static int directionOf(char letter) {
            if (letter == 'n') {
                return NORTH;
            }
            if (letter == 'e') {
                return EAST;
            }
            return letter == 's' ? SOUTH : WEST;
        }
    }

    /** The text, and the orders that were read from it last. */
    private static final class Plan {
        private final char[] text = new char[MOST_TEXT];
        int length = 0;
        private final char[] letters = new char[MOST_TEXT];
        private final int[] numbers = new int[MOST_TEXT];
        int orderCount = 0;
        private boolean walkerDue = false;

        boolean append(char character) {
            if (length < 0 || length >= text.length) {
                return false;
            }
            text[length] = character;
            length++;
            return true;
        }

        /** Reads the orders of the text; answers its fault, or -1 if it has none. */
        int readOrders(int walkers) {
            orderCount = 0;
            walkerDue = false;
            for (int index = 0; index < length && index < text.length; index++) {
                if (!takes(text[index], walkers)) {
                    return index;
                }
            }
            return length == 0 || walkerDue ? length : -1;
        }

        private boolean takes(char character, int walkers) {
            boolean digit = character >= '0' && character <= '9';
            if (walkerDue) {
                walkerDue = false;
                return digit && takesWalker(character - '0', walkers);
            }
            return digit ? takesDigit(character - '0') : takesLetter(character, walkers);
        }

        private boolean takesWalker(int walker, int walkers) {
            int order = orderCount - 1;
            if (walker >= walkers || order < 0 || order >= numbers.length) {
                return false;
            }
            numbers[order] = walker;
            return true;
        }

        // A number that has no digit yet is 0, so that a digit 0 in front is out of range like a third digit.
        private boolean takesDigit(int digit) {
            int order = orderCount - 1;
            if (order < 0 || order >= numbers.length || letters[order] == '#') {
                return false;
            }
            int number = numbers[order] * 10 + digit;
            if (!isBetween(number, 1, MOST_ORDER)) {
                return false;
            }
            numbers[order] = number;
            return true;
        }

        private boolean takesLetter(char letter, int walkers) {
            if (!isOrder(letter, walkers) || orderCount < 0 || orderCount >= letters.length) {
                return false;
            }
            letters[orderCount] = letter;
            numbers[orderCount] = 0;
            orderCount++;
            walkerDue = letter == '#';
            return true;
        }

        private static boolean isOrder(char letter, int walkers) {
            if (letter == 'r' || letter == '#') {
                return true;
            }
            boolean steps = letter == 'n' || letter == 'e' || letter == 's' || letter == 'w';
            return walkers > 0 && (steps || letter == 'g' || letter == 'd');
        }

        char letterOf(int order) {
            return order >= 0 && order < orderCount && order < letters.length ? letters[order] : '#';
        }

        /** Answers the walker of "#", or how often another order is carried out. */
        int numberOf(int order) {
            if (order < 0 || order >= orderCount || order >= numbers.length) {
                return 0;
            }
            return letters[order] == '#' ? numbers[order] : Math.max(numbers[order], 1);
        }
    }

    /** The latest states, the oldest first; their rooms are used again. */
    private static final class History {
        private final State[] states = new State[MOST_STATES];
        int size = 0;

        History() {
            for (int index = 0; index < MOST_STATES; index++) {
                states[index] = new State();
            }
        }

        void record(State now) {
            if (size >= MOST_STATES) {
                dropOldest();
            }
            State room = stateAt(size);
            if (room != null) {
                room.copyFrom(now);
                size++;
            }
        }

        /** Answers the latest state, whose room is free from now on, or null if there is none. */
        State takeLatest() {
            State latest = stateAt(size - 1);
            if (latest != null) {
                size--;
            }
            return latest;
        }

        private void dropOldest() {
            State oldest = states[0];
            for (int index = 1; index < MOST_STATES; index++) {
                states[index - 1] = states[index];
            }
            states[MOST_STATES - 1] = oldest;
            size = MOST_STATES - 1;
        }

        private State stateAt(int index) {
            if (index < 0 || index >= states.length) {
                return null;
            }
            return states[index];
        }
    }
}
