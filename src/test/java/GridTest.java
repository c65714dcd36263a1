import java.util.Arrays;

/** Every call, by numbers around every limit, in states at their edges: the class answers as the model does. */
public final class GridTest {
    private static final int MIN = Integer.MIN_VALUE, MAX = Integer.MAX_VALUE, NONE = -9;
    private static final String[] CALLS = {
        "row", "lay", "at", "tear", "copy", "mean", "text", "put", "fault", "house", "sitter", "mark", "lines",
        "call", "cut", "change", "undo", "keep", "on", "can", "play", "best", "least", "ways", "seats", "beside",
        "apart", "frights", "kinds", "whom", "duel", "odds", "mid", "lots", "asked", "upper", "lower", "count",
        "applause", "finding", "findings", "digest",
    };
    private static final int[] MANY = {
        MIN, MIN + 1, -9, -1, 0, 1, 2, 3, 4, 5, 6, 7, 8, 9, 10, 11, 39, 40, 41, 59, 60, 61, MAX - 1, MAX,
    };
    private static final int[] SOME = {MIN, -129, -1, 0, 1, 3, 5, 6, 40, 128, MAX};
    private static final int[] FEW = {MIN, -1, 0, 2, 3, 5, 6, MAX};
    private static final int STATES = 5;
    /** More than a call and a look at what it left take. */
    private static final int CALLS_LEFT = 20;

    private final Due due;
    private final int state;
    private Pair pair;
    private long digest;

    private GridTest(Due due, int state) {
        this.due = due;
        this.state = state;
        begin();
    }

    public static void main(String[] args) {
        Due due = new Due("GridTest");
        for (int state = 0; state < STATES; state++) {
            GridTest grid = new GridTest(due, state);
            for (String call : CALLS) {
                int numbers = Pair.numbersOf(call);
                grid.allOf(call, new int[numbers], 0, numbers < 3 ? MANY : numbers == 3 ? SOME : FEW);
            }
        }
        due.end();
    }

    private void allOf(String call, int[] numbers, int filled, int[] values) {
        if (filled == numbers.length) {
            one(call, numbers);
            return;
        }
        for (int v : values) {
            numbers[filled] = v;
            allOf(call, numbers, filled + 1, values);
        }
    }

    /** What a call changes must not be there for the next one. */
    private void one(String call, int[] numbers) {
        if (pair.real.callsLeft() < CALLS_LEFT) {
            begin();
        }
        int wrongBefore = due.wrong();
        pair.both(call, numbers);
        pair.look();
        if (due.wrong() > wrongBefore) {
            System.out.println("  behind " + call + Arrays.toString(numbers) + " in state " + state);
        }
        if (pair.model.digest() != digest) {
            begin();
        }
    }

    private void begin() {
        pair = new Pair(due, "state " + state);
        switch (state) {
            case 0 -> { }
            case 1 -> smallHouse();
            case 2 -> fullHouse();
            case 3 -> behindAll();
            default -> fullShelves();
        }
        digest = pair.model.digest();
    }

    private void smallHouse() {
        pair.row(0, 1, NONE);
        pair.row(3, 2, 1, 1);
        pair.write(0, "a22s035k214");
        pair.both("house", 0);
        pair.both("text", 2, 0);
        pair.both("row", 5, 0);
    }

    private void fullHouse() {
        pair.row(0, 5, 3, NONE);
        pair.row(3, 9, -9, 0, 1, 20, 1);
        pair.write(0, "a3462735s035c124k346u457w568q679");
        pair.both("house", 0);
        pair.both("call", 1);
        pair.both("keep", 0);
        pair.both("cut");
        pair.both("call", 0);
        deeds(37);
        pair.both("keep", 2);
        pair.both("odds", 1);
    }

    private void behindAll() {
        pair.write(3, "a233q035k214q999");
        pair.both("house", 3);
        pair.row(3, 2, 1, 1);
        pair.both("lots", 77);
        deeds(40);
        pair.both("keep", 1);
        pair.both("row", 0, 0);
    }

    private void fullShelves() {
        for (int r = 0; r < 6; r++) {
            pair.both("row", r, 8 * r);
        }
        for (int t = 0; t < 4; t++) {
            pair.both("text", t, 20 * t);
        }
        pair.write(2, "a9999999w900w700w600k000k800s500");
        pair.both("house", 2);
        for (int k = 0; k < 3; k++) {
            pair.both("keep", k);
            pair.both("change", k, k + 1);
        }
    }

    private void deeds(int n) {
        for (int k = pair.model.count(3); k < n; k++) {
            pair.both("change", 0, 1);
        }
    }
}
