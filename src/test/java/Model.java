import java.util.ArrayDeque;
import java.util.ArrayList;
import java.util.Comparator;
import java.util.Deque;
import java.util.List;

/** The document's promises a second time, in their plainest form: every heap is found anew for every question. */
final class Model {
    private int rows = 8;
    private int columns = 8;
    private int[][] board = new int[8][8];
    private List<int[]> walkers = new ArrayList<>();
    private List<Integer> turns = new ArrayList<>(List.of(0));
    private boolean lone = true;
    private int place = 0;
    private int merges = 0;
    private int splits = 0;
    private String text = "";
    private Deque<Model> past = new ArrayDeque<>();
    private Model[] kept = new Model[2];

    private static final int[] DOWN = {-1, 0, 1, 0};
    private static final int[] ALONG = {0, 1, 0, -1};

    private Model copy() {
        Model m = new Model();
        m.take(this);
        return m;
    }

    private void take(Model o) {
        rows = o.rows;
        columns = o.columns;
        board = new int[rows][];
        for (int r = 0; r < rows; r++) {
            board[r] = o.board[r].clone();
        }
        walkers = new ArrayList<>();
        for (int[] w : o.walkers) {
            walkers.add(w.clone());
        }
        turns = new ArrayList<>(o.turns);
        lone = o.lone;
        place = o.place;
        merges = o.merges;
        splits = o.splits;
    }

    private void act() {
        past.addLast(copy());
        if (past.size() > 5) {
            past.removeFirst();
        }
    }

    private boolean on(int r, int c) {
        return r >= 0 && c >= 0 && r < rows && c < columns;
    }

    /** A heap: size, cells, row, column, most, and its cells as row * 100 + column. */
    private List<List<Integer>> heaps() {
        boolean[][] seen = new boolean[rows][columns];
        List<List<Integer>> all = new ArrayList<>();
        for (int r = 0; r < rows; r++) {
            for (int c = 0; c < columns; c++) {
                if (board[r][c] > 0 && !seen[r][c]) {
                    List<Integer> cells = new ArrayList<>();
                    spread(r, c, seen, cells);
                    int size = 0;
                    int most = 0;
                    for (int cell : cells) {
                        int chips = board[cell / 100][cell % 100];
                        size += chips;
                        most = Math.max(most, chips);
                    }
                    List<Integer> heap = new ArrayList<>(List.of(size, cells.size(), r, c, most));
                    heap.addAll(cells);
                    all.add(heap);
                }
            }
        }
        Comparator<List<Integer>> order = Comparator.comparingInt(h -> -h.get(0));
        all.sort(order.thenComparingInt(h -> h.get(1)).thenComparingInt(h -> h.get(2)).thenComparingInt(h -> h.get(3)));
        return all;
    }

    private void spread(int r, int c, boolean[][] seen, List<Integer> cells) {
        if (on(r, c) && board[r][c] > 0 && !seen[r][c]) {
            seen[r][c] = true;
            cells.add(r * 100 + c);
            for (int d = 0; d < 4; d++) {
                spread(r + DOWN[d], c + ALONG[d], seen, cells);
            }
        }
    }

    int reset(int r, int c) {
        if (r < 2 || r > 16 || c < 2 || c > 16) {
            return -2;
        }
        act();
        rows = r;
        columns = c;
        board = new int[r][c];
        walkers.clear();
        merges = 0;
        splits = 0;
        return r * c;
    }

    int put(int r, int c, int n) {
        if (!on(r, c)) {
            return -1;
        }
        if (n < 0 || n > 99) {
            return -2;
        }
        act();
        int old = board[r][c];
        board[r][c] = n;
        return old;
    }

    int strew(int a, int b, int m) {
        if (a < 0 || a > 9 || b < 0 || b > 9 || m < 1 || m > 20) {
            return -2;
        }
        Model before = copy();
        int come = 0;
        for (int r = 0; r < rows; r++) {
            for (int c = 0; c < columns; c++) {
                if ((r * a + c * b) % m == 0 && board[r][c] < 99) {
                    board[r][c]++;
                    come++;
                }
            }
        }
        if (come == 0) {
            return -5;
        }
        past.addLast(before);
        if (past.size() > 5) {
            past.removeFirst();
        }
        return come;
    }

    int addWalker(int r, int c, int d, int s, int cap) {
        if (!on(r, c)) {
            return -1;
        }
        if (d < 0 || d > 3 || s < 0 || s > 2 || cap < 1 || cap > 9) {
            return -2;
        }
        if (walkers.size() == 8) {
            return -3;
        }
        act();
        walkers.add(new int[] {r, c, d, 0, cap, s, 0, 0, 0});
        return walkers.size() - 1;
    }

    private boolean is(int walker) {
        return walker >= 0 && walker < walkers.size();
    }

    int setSort(int walker, int sort) {
        if (!is(walker)) {
            return -1;
        }
        if (sort < 0 || sort > 2) {
            return -2;
        }
        act();
        int old = walkers.get(walker)[5];
        walkers.get(walker)[5] = sort;
        return old;
    }

    int empty(int walker) {
        if (!is(walker)) {
            return -1;
        }
        int[] w = walkers.get(walker);
        if (board[w[0]][w[1]] + w[3] > 99) {
            return -4;
        }
        if (w[3] == 0) {
            return -5;
        }
        act();
        drop(w, w[3]);
        return board[w[0]][w[1]];
    }

    int addTurn(int number) {
        if (number < 0 || number > 9) {
            return -2;
        }
        if (turns.size() == 30) {
            return -3;
        }
        act();
        if (lone) {
            turns.clear();
        }
        lone = false;
        turns.add(number);
        place = 0;
        return turns.size();
    }

    int clearTurns() {
        act();
        int old = turns.size();
        turns = new ArrayList<>(List.of(0));
        lone = true;
        place = 0;
        return old;
    }

    private void pick(int[] w, int n) {
        w[3] += n;
        w[7] += n;
        board[w[0]][w[1]] -= n;
    }

    private void drop(int[] w, int n) {
        w[3] -= n;
        w[8] += n;
        board[w[0]][w[1]] += n;
    }

    private void step(int[] w) {
        int number = turns.get(place);
        place = (place + 1) % turns.size();
        if (number == 5 || number == 6) {
            w[2] = (w[2] + 1) % 4;
        } else if (number == 7 || number == 8) {
            w[2] = (w[2] + 3) % 4;
        } else if (number == 9) {
            w[2] = (w[2] + 2) % 4;
        }
        while (!on(w[0] + DOWN[w[2]], w[1] + ALONG[w[2]])) {
            w[2] = (w[2] + 1) % 4;
        }
        move(w);
    }

    private void move(int[] w) {
        List<List<Integer>> before = heaps();
        w[0] += DOWN[w[2]];
        w[1] += ALONG[w[2]];
        w[6]++;
        int c = board[w[0]][w[1]];
        int p = w[3];
        if (w[5] == 0) {
            if (p == 0 && c >= 1) {
                pick(w, 1);
            } else if (p > 0 && c >= 1 && c < 99) {
                drop(w, 1);
            }
        } else if (w[5] == 1) {
            if (c >= 1 && c <= 2 && p < w[4]) {
                pick(w, Math.min(c, w[4] - p));
            } else if (c >= 3 && p > 0) {
                drop(w, Math.min(p, 99 - c));
            }
        } else {
            boolean greatest = !before.isEmpty()
                && before.get(0).subList(5, before.get(0).size()).contains(w[0] * 100 + w[1]);
            if (p < w[4] && c >= 1 && !greatest) {
                pick(w, 1);
            } else if (p > 0 && c >= 1 && c < 99) {
                drop(w, 1);
            }
        }
        int difference = heaps().size() - before.size();
        if (difference < 0) {
            merges -= difference;
        } else {
            splits += difference;
        }
    }

    int walk(int walker, int steps) {
        if (!is(walker)) {
            return -1;
        }
        if (steps < 1 || steps > 100) {
            return -2;
        }
        act();
        for (int i = 0; i < steps; i++) {
            step(walkers.get(walker));
        }
        return walkers.get(walker)[3];
    }

    int rounds(int n) {
        if (n < 1 || n > 50) {
            return -2;
        }
        if (walkers.isEmpty()) {
            return -5;
        }
        act();
        go(n);
        return heaps().size();
    }

    private int go(int n) {
        for (int i = 0; i < n; i++) {
            for (int[] w : walkers) {
                step(w);
            }
        }
        return n * walkers.size();
    }

    int type(char c) {
        if (text.length() == 40) {
            return -3;
        }
        text += c;
        return text.length();
    }

    int clearText() {
        int old = text.length();
        text = "";
        return old;
    }

    /** Answers the index of the fault, or -1; puts the orders as texts into the list. */
    private int orders(List<String> orders) {
        String letters = walkers.isEmpty() ? "r" : "rneswgd";
        int i = 0;
        while (i < text.length()) {
            char letter = text.charAt(i);
            if (letter == '#') {
                if (i + 1 == text.length()) {
                    return i + 1;
                }
                char digit = text.charAt(i + 1);
                if (digit < '0' || digit > '9' || digit - '0' >= walkers.size()) {
                    return i + 1;
                }
                orders.add("#" + digit);
                i += 2;
            } else if (letters.indexOf(letter) >= 0) {
                i++;
                String number = "";
                while (i < text.length() && text.charAt(i) >= '0' && text.charAt(i) <= '9') {
                    number += text.charAt(i);
                    if (number.startsWith("0") || number.length() > 2 || Integer.parseInt(number) > 50) {
                        return i;
                    }
                    i++;
                }
                orders.add(letter + (number.isEmpty() ? "1" : number));
            } else {
                return i;
            }
        }
        return text.isEmpty() ? 0 : -1;
    }

    int run() {
        List<String> orders = new ArrayList<>();
        int fault = orders(orders);
        if (fault >= 0) {
            return -100 - fault;
        }
        act();
        int present = 0;
        int steps = 0;
        for (String order : orders) {
            int n = Integer.parseInt(order.substring(1));
            if (order.charAt(0) == '#') {
                present = n;
            } else if (order.charAt(0) == 'r') {
                steps += go(n);
            } else {
                steps += order(walkers.get(present), order.charAt(0), n);
            }
        }
        return steps;
    }

    private int order(int[] w, char letter, int n) {
        int steps = 0;
        if (letter == 'g') {
            for (int i = 0; i < n; i++) {
                if (board[w[0]][w[1]] > 0 && w[3] < w[4]) {
                    pick(w, 1);
                }
            }
        } else if (letter == 'd') {
            for (int i = 0; i < n; i++) {
                if (board[w[0]][w[1]] < 99 && w[3] > 0) {
                    drop(w, 1);
                }
            }
        } else {
            int d = "nesw".indexOf(letter);
            while (steps < n && on(w[0] + DOWN[d], w[1] + ALONG[d])) {
                w[2] = d;
                move(w);
                steps++;
            }
        }
        return steps;
    }

    int undo() {
        if (past.isEmpty()) {
            return -5;
        }
        take(past.removeLast());
        return past.size();
    }

    private int sum() {
        int sum = 0;
        for (int[] row : board) {
            for (int n : row) {
                sum += n;
            }
        }
        return sum;
    }

    int keep(int slot) {
        if (slot != 0 && slot != 1) {
            return -1;
        }
        kept[slot] = copy();
        return sum();
    }

    int restore(int slot) {
        if (slot != 0 && slot != 1) {
            return -1;
        }
        if (kept[slot] == null) {
            return -5;
        }
        act();
        take(kept[slot]);
        return sum();
    }

    int chips(int r, int c) {
        return on(r, c) ? board[r][c] : -1;
    }

    int walker(int walker, int what) {
        if (!is(walker)) {
            return -1;
        }
        return what < 0 || what > 8 ? -2 : walkers.get(walker)[what];
    }

    int heap(int at, int what) {
        if (at < 0 || what < 0 || what > 4) {
            return -2;
        }
        List<List<Integer>> heaps = heaps();
        return at >= heaps.size() ? -5 : heaps.get(at).get(what);
    }

    int heapOf(int r, int c) {
        if (!on(r, c)) {
            return -1;
        }
        List<List<Integer>> heaps = heaps();
        for (int i = 0; i < heaps.size(); i++) {
            if (heaps.get(i).subList(5, heaps.get(i).size()).contains(r * 100 + c)) {
                return i;
            }
        }
        return -5;
    }

    int roundsUntil(int n) {
        if (n < 0 || n > 256) {
            return -2;
        }
        Model trial = copy();
        for (int round = 0; round <= 200; round++) {
            if (trial.heaps().size() <= n) {
                return round;
            }
            if (walkers.isEmpty()) {
                return -5;
            }
            trial.go(1);
        }
        return -5;
    }

    int turn(int index) {
        if (index < 0) {
            return -2;
        }
        return index < turns.size() ? turns.get(index) : -5;
    }

    int count(int what) {
        int pockets = 0;
        int steps = 0;
        for (int[] w : walkers) {
            pockets += w[3];
            steps += w[6];
        }
        int[] counts = {rows, columns, walkers.size(), sum(), pockets, heaps().size(), merges, splits, steps, place,
            turns.size(), past.size(), text.length()};
        return what < 0 || what >= counts.length ? -2 : counts[what];
    }
}
