/** Runs of at most 512 calls, made by a fixed row of numbers, against the plain model. */
public final class RandomRunsTest {
    private static final int RUNS = 500;
    // The document promises nothing behind this many calls of one object.
    private static final int MOST_CALLS = 512;
    private static final int CALLS_LEFT_TO_COMPARE = 100;
    private static final int MOST_CALLS_OF_A_TURN = 48;
    private static final String SIGNS = "rneswgd#0123456789 x";

    private long seed;
    private ChipPilers x;
    private Model m;
    private String call;
    private int calls = 0;

    public static void main(String[] args) {
        for (int run = 0; run < RUNS; run++) {
            new RandomRunsTest().go(run);
        }
        Check.end();
    }

    private void go(int run) {
        seed = run * 7919L + 17;
        x = new ChipPilers();
        m = new Model();
        begin(run);
        while (calls < MOST_CALLS - CALLS_LEFT_TO_COMPARE - MOST_CALLS_OF_A_TURN) {
            int choice = below(100);
            int[] answers = choice < 34 ? change(choice) : choice < 58 ? walkOrPlan(choice - 34) : tell(choice - 58);
            Check.due("run " + run + " call " + calls + ": " + call, answers[0], answers[1]);
        }
        compareAll("run " + run);
    }

    // Small boards meet walls and full cells often, great ones have many heaps.
    private void begin(int run) {
        int most = run % 3 == 0 ? 4 : 16;
        int rows = 2 + below(most - 1);
        int columns = 2 + below(most - 1);
        calls++;
        Check.due("begin", x.reset(rows, columns), m.reset(rows, columns));
        int walkers = below(5);
        for (int i = 0; i < walkers; i++) {
            addWalker();
        }
        for (int i = 0; i < 3; i++) {
            strew();
        }
    }

    private int below(int bound) {
        seed = seed * 6364136223846793005L + 1442695040888963407L;
        return (int) ((seed >>> 33) % bound);
    }

    /** Answers mostly a number from least to most, and now and then one beside them. */
    private int near(int least, int most) {
        int choice = below(60);
        if (choice == 0) {
            return least - 1;
        }
        if (choice == 1) {
            return most + 1;
        }
        if (choice == 2) {
            return below(2) == 0 ? Integer.MIN_VALUE : Integer.MAX_VALUE;
        }
        return least + below(most - least + 1);
    }

    private int row() {
        return near(0, m.count(0) - 1);
    }

    private int column() {
        return near(0, m.count(1) - 1);
    }

    private int someWalker() {
        return near(0, Math.max(0, m.count(2) - 1));
    }

    private int[] told(String name, int got, int want) {
        calls++;
        call = name;
        return new int[] {got, want};
    }

    private int[] strew() {
        int a = near(0, 9);
        int b = near(0, 9);
        int c = near(1, 20);
        return told("strew " + a + " " + b + " " + c, x.strew(a, b, c), m.strew(a, b, c));
    }

    private int[] addWalker() {
        int r = row();
        int c = column();
        int d = near(0, 3);
        int s = near(0, 2);
        int cap = near(1, 9);
        return told("addWalker " + r + " " + c + " " + d + " " + s + " " + cap,
            x.addWalker(r, c, d, s, cap), m.addWalker(r, c, d, s, cap));
    }

    private int[] change(int choice) {
        int r = row();
        int c = column();
        int w = someWalker();
        switch (choice) {
            case 0: {
                int rows = near(2, below(4) == 0 ? 16 : 5);
                int columns = near(2, below(4) == 0 ? 16 : 5);
                return told("reset " + rows + " " + columns, x.reset(rows, columns), m.reset(rows, columns));
            }
            case 1: case 2: case 3: case 4: case 5: {
                int n = below(3) == 0 ? near(0, 99) : below(3) == 0 ? near(96, 99) : near(0, 4);
                return told("put " + r + " " + c + " " + n, x.put(r, c, n), m.put(r, c, n));
            }
            case 6: case 7: case 8:
                return strew();
            case 9: case 10: case 11:
                return addWalker();
            case 12: case 13: case 14: {
                int s = near(0, 2);
                return told("setSort " + w + " " + s, x.setSort(w, s), m.setSort(w, s));
            }
            case 15: case 16: case 17: case 18:
                return told("empty " + w, x.empty(w), m.empty(w));
            case 19: case 20: case 21: case 22: case 23: {
                int n = near(0, 9);
                return told("addTurn " + n, x.addTurn(n), m.addTurn(n));
            }
            case 24:
                return told("clearTurns", x.clearTurns(), m.clearTurns());
            case 25: case 26: case 27: case 28: case 29:
                return told("undo", x.undo(), m.undo());
            case 30: case 31: {
                int s = near(0, 1);
                return told("keep " + s, x.keep(s), m.keep(s));
            }
            default: {
                int s = near(0, 1);
                return told("restore " + s, x.restore(s), m.restore(s));
            }
        }
    }

    private int[] walkOrPlan(int choice) {
        if (choice < 6) {
            int w = someWalker();
            int n = below(5) == 0 ? near(1, 100) : near(1, 6);
            return told("walk " + w + " " + n, x.walk(w, n), m.walk(w, n));
        }
        if (choice < 12) {
            int n = below(5) == 0 ? near(1, 50) : near(1, 5);
            return told("rounds " + n, x.rounds(n), m.rounds(n));
        }
        if (choice < 20) {
            char c = below(80) == 0 ? (char) below(65536) : SIGNS.charAt(below(SIGNS.length()));
            return told("type " + (int) c, x.type(c), m.type(c));
        }
        if (choice < 21) {
            return told("clearText", x.clearText(), m.clearText());
        }
        if (below(2) == 0) {
            typePlan();
        }
        return told("run", x.run(), m.run());
    }

    private void typePlan() {
        calls++;
        Check.due("clearText ahead of a plan", x.clearText(), m.clearText());
        int orders = 1 + below(14);
        for (int i = 0; i < orders; i++) {
            char letter = SIGNS.charAt(below(8));
            String order = "" + letter;
            if (letter == '#') {
                order += below(Math.max(1, m.count(2)));
            } else if (below(2) == 0) {
                order += 1 + below(letter == 'r' ? 9 : 30);
            }
            for (char c : order.toCharArray()) {
                calls++;
                Check.due("type of a plan", x.type(c), m.type(c));
            }
        }
    }

    private int[] tell(int choice) {
        int r = row();
        int c = column();
        if (choice < 6) {
            return told("chips " + r + " " + c, x.chips(r, c), m.chips(r, c));
        }
        if (choice < 14) {
            int w = someWalker();
            int what = near(0, 8);
            return told("walker " + w + " " + what, x.walker(w, what), m.walker(w, what));
        }
        if (choice < 22) {
            int place = near(0, Math.max(1, m.count(5)));
            int what = near(0, 4);
            return told("heap " + place + " " + what, x.heap(place, what), m.heap(place, what));
        }
        if (choice < 28) {
            return told("heapOf " + r + " " + c, x.heapOf(r, c), m.heapOf(r, c));
        }
        if (choice < 30) {
            int n = below(4) == 0 ? near(0, 256) : Math.max(0, m.count(5) - 1 - below(3));
            return told("roundsUntil " + n, x.roundsUntil(n), m.roundsUntil(n));
        }
        if (choice < 33) {
            int index = near(0, 30);
            return told("turn " + index, x.turn(index), m.turn(index));
        }
        int what = near(0, 12);
        return told("count " + what, x.count(what), m.count(what));
    }

    private void compareAll(String run) {
        for (int what = 0; what <= 12; what++) {
            calls++;
            Check.due(run + " at its end: count " + what, x.count(what), m.count(what));
        }
        for (int cell = 0; cell < m.count(0) * m.count(1) && calls + 2 <= MOST_CALLS; cell++) {
            int r = cell / m.count(1);
            int c = cell % m.count(1);
            calls += 2;
            Check.due(run + " at its end: chips " + r + " " + c, x.chips(r, c), m.chips(r, c));
            Check.due(run + " at its end: heapOf " + r + " " + c, x.heapOf(r, c), m.heapOf(r, c));
        }
    }
}
