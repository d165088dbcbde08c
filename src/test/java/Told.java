import java.util.ArrayList;
import java.util.List;

/** All that an object tells of its state, so that two objects, or two moments of one, can be compared. */
final class Told {
    private Told() {
    }

    /** The state is everything but the text, the history and the snapshots. */
    static List<Integer> state(ChipPilers x) {
        List<Integer> told = new ArrayList<>();
        for (int what = 0; what <= 10; what++) {
            told.add(x.count(what));
        }
        for (int row = 0; row < x.count(0); row++) {
            for (int column = 0; column < x.count(1); column++) {
                told.add(x.chips(row, column));
                told.add(x.heapOf(row, column));
            }
        }
        for (int walker = 0; walker < x.count(2); walker++) {
            for (int what = 0; what <= 8; what++) {
                told.add(x.walker(walker, what));
            }
        }
        for (int index = 0; index < x.count(10); index++) {
            told.add(x.turn(index));
        }
        for (int what = 0; what <= 4; what++) {
            told.add(x.heap(0, what));
        }
        return told;
    }

    static void same(String call, List<Integer> got, List<Integer> want) {
        Check.due(call + ": how much is told", got.size(), want.size());
        for (int index = 0; index < got.size() && index < want.size(); index++) {
            Check.due(call + ": told " + index, got.get(index), want.get(index));
        }
    }
}
