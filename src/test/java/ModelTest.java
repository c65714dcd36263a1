import java.util.Random;

/** Runs of calls, drawn by fixed seeds: the class answers each one as the model of the document does. */
public final class ModelTest {
    private static final int RUNS = 6000;
    /** More than any one step takes. */
    private static final int CALLS_LEFT = 150;
    private static final int WRONG_MOST = 20;
    private static final int[] EDGES = {
        Integer.MIN_VALUE, Integer.MIN_VALUE + 1, Integer.MAX_VALUE, Integer.MAX_VALUE - 1, -10, -9, -1, 0, 7, 40, 41,
        60, 61, 2147483645,
    };
    private static final String[] STEPS = {
        "row", "lay", "at", "tear", "copy", "mean", "text", "put", "fault", "house", "sitter", "mark", "lines",
        "call", "cut", "change", "undo", "keep", "on", "can", "applause", "play", "best", "least", "ways", "seats",
        "beside", "apart", "frights", "kinds", "whom", "duel", "odds", "mid", "lots", "asked", "upper", "lower",
        "count", "findings", "call", "many changes",
    };

    private final Random random;
    private final Pair pair;
    /** Sixes and nines give large searches; small houses give edges. */
    private final int size;

    private ModelTest(Due due, int seed) {
        random = new Random(seed);
        pair = new Pair(due, "seed " + seed);
        size = seed % 3 == 0 ? 1 + random.nextInt(6) : 6;
    }

    public static void main(String[] args) {
        Due due = new Due("ModelTest");
        for (int seed = 1; seed <= RUNS && due.wrong() < WRONG_MOST; seed++) {
            new ModelTest(due, seed).run(due);
        }
        due.end();
    }

    private void run(Due due) {
        int wrongBefore = due.wrong();
        for (int k = 0; pair.real.callsLeft() > CALLS_LEFT && due.wrong() == wrongBefore; k++) {
            if (k % 70 == 3) {
                writeHouse();
            } else {
                step();
            }
            if (k % 8 == 0) {
                pair.look();
            } else {
                pair.lookShortly();
            }
        }
        pair.look();
        if (due.wrong() != wrongBefore) {
            System.out.println("  " + pair.latestCalls());
        }
    }

    private int pick(int below) {
        return random.nextInt(25) == 0 ? EDGES[random.nextInt(EDGES.length)] : random.nextInt(below + 1);
    }

    private void step() {
        String call = STEPS[random.nextInt(STEPS.length)];
        switch (call) {
            case "row" -> pair.both(call, pick(6), size());
            case "text" -> pair.both(call, pick(4), size());
            case "lay" -> pair.both(call, pick(6), pick(7), value());
            case "copy" -> pair.both(call, pick(6), pick(5), pick(6), pick(5), pick(5));
            case "put" -> pair.both(call, pick(4), pick(40), random.nextInt(300) - 20);
            case "house" -> pair.both(call, random.nextInt(8) == 0 ? pick(4) : 1);
            case "sitter" -> pair.both(call, someone(), pick(8));
            case "mark" -> pair.both(call, someone(), pick(6));
            case "call" -> pair.both(call, someone());
            case "change" -> pair.both(call, someone(), someone());
            case "keep", "on" -> pair.both(call, pick(3));
            case "duel" -> pair.both(call, pick(5));
            case "play" -> plan();
            case "frights", "kinds" -> notices(call);
            case "undo" -> undo();
            case "lots" -> lots();
            case "many changes" -> manyChanges();
            default -> pair.both(call, pick(6), pick(6));
        }
    }

    private int size() {
        return pick(random.nextBoolean() ? 7 : 61) - random.nextInt(2);
    }

    private int value() {
        return random.nextInt(4) == 0 ? random.nextInt() : random.nextInt(14) - 9;
    }

    private void plan() {
        int n = Math.min(40, random.nextInt(Math.max(1, pair.model.count(1) - pair.model.count(2) + 2)));
        int[] plan = new int[n];
        for (int k = 0; k < n; k++) {
            plan[k] = random.nextInt(3) == 0 ? -9 : random.nextInt(20) == 0 ? value() : (k + random.nextInt(3)) % 6;
        }
        pair.row(2, plan);
        pair.both("play", random.nextInt(8) == 0 ? pick(6) : 2);
    }

    private void notices(String call) {
        if (random.nextInt(3) == 0) {
            pair.both(call, pick(6), pick(6));
            return;
        }
        int[] notices = new int[random.nextInt(5) == 0 ? random.nextInt(41) : 3 * random.nextInt(4)];
        boolean clean = random.nextInt(6) != 0;
        for (int k = 0; k < notices.length; k++) {
            notices[k] = switch (k % 3) {
                case 0 -> clean ? 1 + random.nextInt(9) : random.nextInt(11);
                case 1 -> clean ? random.nextInt(30) - 9 : random.nextInt(32) - 10;
                default -> clean ? random.nextInt(2) : random.nextInt(3);
            };
        }
        pair.row(3, notices);
        pair.both("frights", random.nextInt(Math.max(1, pair.model.count(0))), 3);
        pair.both("kinds", random.nextInt(Math.max(1, pair.model.count(0))), 3);
    }

    private void undo() {
        int back = random.nextInt(3) == 0 ? 0 : pair.model.count(3) - random.nextInt(6);
        pair.both("undo", random.nextInt(6) == 0 ? pick(40) : back);
    }

    private void lots() {
        if (random.nextInt(4) == 0) {
            pair.both("lots", random.nextBoolean() ? pick(10) : 1 + random.nextInt(2147483646));
        }
    }

    /** Up to where there is no room for deeds, or nearly none. */
    private void manyChanges() {
        int sitters = pair.model.count(0);
        if (random.nextInt(4) == 0 && sitters > 1) {
            for (int k = 40 - random.nextInt(8) - pair.model.count(3); k > 0; k--) {
                int i = random.nextInt(sitters);
                pair.both("change", i, (i + 1) % sitters);
            }
        }
    }

    private int someone() {
        return pick(random.nextInt(10) == 0 ? 6 : Math.max(0, pair.model.count(0) - 1));
    }

    /** A house into text 1; sometimes, behind that, another one that has a fault, perhaps. */
    private void writeHouse() {
        StringBuilder s = new StringBuilder(" ".repeat(random.nextInt(2)));
        s.append('a').append(random.nextInt(random.nextBoolean() ? 10 : 4));
        int hard = 1 + random.nextInt(9);
        for (int k = Math.max(random.nextInt(size), random.nextInt(size)); k >= 0; k--) {
            s.append(1 + random.nextInt(hard));
        }
        int taken = 0;
        String letters = random.nextInt(3) == 0 ? "kw" : random.nextInt(3) == 0 ? "q" : "sckuwq";
        for (int k = Math.max(random.nextInt(size), random.nextInt(size)); k >= 0; k--) {
            int seat = random.nextInt(10);
            for (int tries = 0; tries < 100 && (taken >> seat & 1) != 0; tries++) {
                seat = random.nextInt(10);
            }
            taken |= 1 << seat;
            s.append(" ".repeat(random.nextInt(3))).append(letters.charAt(random.nextInt(letters.length())));
            s.append(seat).append(random.nextInt(10)).append(random.nextInt(10));
        }
        s.append(" ".repeat(random.nextInt(2)));
        pair.write(1, s.toString());
        pair.both("fault", 1);
        pair.both("house", 1);
        if (random.nextInt(2) == 0) {
            spoil(s);
            pair.write(0, s.toString());
            pair.both("fault", 0);
            pair.both("house", 0);
        }
    }

    private void spoil(StringBuilder s) {
        String signs = "askcuwqx0123456789  ";
        for (int k = random.nextInt(3); k >= 0; k--) {
            int p = random.nextInt(s.length());
            switch (random.nextInt(4)) {
                case 0 -> s.setCharAt(p, signs.charAt(random.nextInt(signs.length())));
                case 1 -> s.insert(p, signs.charAt(random.nextInt(signs.length())));
                case 2 -> s.setLength(Math.max(1, p));
                default -> s.append("s").append(random.nextInt(10)).append("55");
            }
        }
    }
}
