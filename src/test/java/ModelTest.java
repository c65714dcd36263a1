import java.util.ArrayDeque;
import java.util.Random;

/** Runs of calls, drawn by fixed seeds: the class answers each one as the model of the document does. */
public final class ModelTest {
    private static final int RUNS = 1500;
    private static final int CALLS = 220;
    private static final int METHODS = 42;
    private static final int WRONG_MOST = 20;
    private static final int[] EDGES = {
        Integer.MIN_VALUE, Integer.MIN_VALUE + 1, Integer.MAX_VALUE, Integer.MAX_VALUE - 1, -10, -9, -1, 0, 7, 40, 41,
        60, 61, 2147483645,
    };

    private final Due due;
    private final Random random;
    private final CalledStalls real = new CalledStalls();
    private final Model model = new Model();
    private final ArrayDeque<String> latest = new ArrayDeque<>();
    /** Sixes and nines give large searches; small houses give edges. */
    private final int size;

    private ModelTest(Due due, int seed) {
        this.due = due;
        random = new Random(seed);
        size = seed % 3 == 0 ? 1 + random.nextInt(6) : 6;
    }

    public static void main(String[] args) {
        Due due = new Due("ModelTest");
        for (int seed = 1; seed <= RUNS && due.wrong() < WRONG_MOST; seed++) {
            new ModelTest(due, seed).run(seed);
        }
        due.end();
    }

    private void run(int seed) {
        int wrongBefore = due.wrong();
        for (int k = 0; k < CALLS && due.wrong() == wrongBefore; k++) {
            if (k % 70 == 3) {
                writeHouse();
                both(9, 0, 0, 0);
            } else {
                one();
            }
            afterwards();
        }
        if (due.wrong() != wrongBefore) {
            System.out.println("  seed " + seed + ", latest calls: " + latest);
        }
    }

    private int pick(int below) {
        return random.nextInt(25) == 0 ? EDGES[random.nextInt(EDGES.length)] : random.nextInt(below + 1);
    }

    private void one() {
        int method = random.nextInt(METHODS);
        switch (method) {
            case 0, 6 -> both(method, pick(method == 0 ? 6 : 4), pick(random.nextBoolean() ? 7 : 61) - random.nextInt(2), 0);
            case 1 -> both(1, pick(6), pick(7), value());
            case 4 -> copy();
            case 7 -> both(7, pick(4), pick(40), random.nextInt(300) - 20);
            case 9 -> both(method, random.nextInt(8) == 0 ? pick(4) : 1, 0, 0);
            case 10 -> both(10, someone(), pick(8), 0);
            case 11 -> both(11, someone(), pick(6), 0);
            case 13, 40 -> both(method, someone(), 0, 0);
            case 15 -> both(15, someone(), someone(), 0);
            case 17, 18 -> both(method, pick(3), 0, 0);
            case 31 -> both(31, pick(5), 0, 0);
            case 21 -> plan();
            case 28, 29 -> notices(method);
            case 16 -> {
                int back = random.nextInt(3) == 0 ? 0 : model.count(3) - random.nextInt(6);
                both(16, random.nextInt(6) == 0 ? pick(40) : back, 0, 0);
            }
            case 34 -> {
                if (random.nextInt(4) == 0) {
                    both(34, random.nextBoolean() ? pick(10) : 1 + random.nextInt(2147483646), 0, 0);
                }
            }
            case 41 -> manyChanges();
            default -> both(method, pick(6), pick(6), pick(6));
        }
    }

    private int value() {
        return random.nextInt(4) == 0 ? random.nextInt() : random.nextInt(14) - 9;
    }

    private void copy() {
        int r = pick(6);
        int i = pick(5);
        int to = pick(6);
        int j = pick(5);
        int n = pick(5);
        note("copy(" + r + ", " + i + ", " + to + ", " + j + ", " + n + ")");
        due.is(latest.getLast(), real.copy(r, i, to, j, n), model.copy(r, i, to, j, n));
    }

    private void plan() {
        int n = Math.min(40, random.nextInt(Math.max(1, model.count(1) - model.count(2) + 2)));
        both(0, 2, n, 0);
        for (int k = 0; k < n; k++) {
            both(1, 2, k, random.nextInt(3) == 0 ? -9 : random.nextInt(20) == 0 ? value() : (k + random.nextInt(3)) % 6);
        }
        both(21, random.nextInt(8) == 0 ? pick(6) : 2, 0, 0);
    }

    private void notices(int method) {
        if (random.nextInt(3) == 0) {
            both(method, pick(6), pick(6), 0);
            return;
        }
        int n = random.nextInt(5) == 0 ? random.nextInt(40) : 3 * random.nextInt(4);
        both(0, 3, n, 0);
        boolean clean = random.nextInt(6) != 0;
        for (int k = 0; k < n; k++) {
            int v = switch (k % 3) {
                case 0 -> clean ? 1 + random.nextInt(9) : random.nextInt(11);
                case 1 -> clean ? random.nextInt(30) - 9 : random.nextInt(32) - 10;
                default -> clean ? random.nextInt(2) : random.nextInt(3);
            };
            both(1, 3, k, v);
        }
        both(28, random.nextInt(Math.max(1, model.count(0))), 3, 0);
        both(29, random.nextInt(Math.max(1, model.count(0))), 3, 0);
    }

    /** Up to where there is no room for deeds, or nearly none. */
    private void manyChanges() {
        if (random.nextInt(4) == 0 && model.count(0) > 1) {
            for (int k = 40 - random.nextInt(8) - model.count(3); k > 0; k--) {
                int i = random.nextInt(model.count(0));
                both(15, i, (i + 1) % model.count(0), 0);
            }
        }
    }

    private int someone() {
        return pick(random.nextInt(10) == 0 ? 6 : Math.max(0, model.count(0) - 1));
    }

    /** A house into text 0 and 1: a fair one mostly, else one with a fault. */
    private void writeHouse() {
        StringBuilder s = new StringBuilder(" ".repeat(random.nextInt(2)));
        s.append('a').append(random.nextInt(random.nextBoolean() ? 10 : 4));
        int hard = 1 + random.nextInt(9);
        for (int k = Math.max(random.nextInt(size), random.nextInt(size)); k >= 0; k--) {
            s.append(1 + random.nextInt(hard));
        }
        int taken = 0;
        String letters = random.nextInt(3) == 0 ? "kw" : random.nextInt(3) == 0 ? "q" : "sckuwq";
        for (int k = Math.max(random.nextInt(size), random.nextInt(size)); k >= 0; k--) {
            int seat = random.nextInt(10);
            for (int tries = 0; tries < 100 && (taken >> seat & 1) != 0; tries++) {
                seat = random.nextInt(10);
            }
            taken |= 1 << seat;
            s.append(" ".repeat(random.nextInt(3))).append(letters.charAt(random.nextInt(letters.length())));
            s.append(seat).append(random.nextInt(10)).append(random.nextInt(10));
        }
        s.append(" ".repeat(random.nextInt(2)));
        write(0, s.toString());
        if (random.nextInt(2) == 0) {
            spoil(s);
        }
        write(1, s.toString());
        for (int t = 0; t < 2; t++) {
            both(8, t, 0, 0);
        }
    }

    private void spoil(StringBuilder s) {
        String signs = "askcuwqx0123456789  ";
        for (int k = random.nextInt(3); k >= 0; k--) {
            int p = random.nextInt(s.length());
            switch (random.nextInt(4)) {
                case 0 -> s.setCharAt(p, signs.charAt(random.nextInt(signs.length())));
                case 1 -> s.insert(p, signs.charAt(random.nextInt(signs.length())));
                case 2 -> s.setLength(Math.max(1, p));
                default -> s.append("s").append(random.nextInt(10)).append("55");
            }
        }
    }

    private void write(int t, String s) {
        both(6, t, Math.min(60, s.length()), 0);
        for (int k = 0; k < s.length() && k < 60; k++) {
            both(7, t, k, s.charAt(k));
        }
    }

    private void note(String call) {
        latest.add(call);
        if (latest.size() > 60) {
            latest.removeFirst();
        }
    }

    private void both(int method, int a, int b, int c) {
        note(NAMES[method] + "(" + a + ", " + b + ", " + c + ")");
        due.is(latest.getLast(), ofReal(method, a, b, c), ofModel(method, a, b, c));
    }

    /** What any call could have changed. */
    private void afterwards() {
        due.is("asked() then", real.asked(), model.asked());
        due.is("upper() then", real.upper(), model.upper());
        due.is("lower() then", real.lower(), model.lower());
        due.is("finding() then", real.finding(), model.finding());
        for (int f = 1; f <= 5; f++) {
            due.is("findings(" + f + ") then", real.findings(f), model.findings(f));
        }
        due.is("digest() then", real.digest(), model.digest());
    }

    private static final String[] NAMES = {
        "row", "lay", "at", "tear", "copy", "mean", "text", "put", "fault", "house", "sitter", "mark", "lines",
        "call", "cut", "change", "undo", "keep", "on", "can", "applause", "play", "best", "least", "ways", "seats",
        "beside", "apart", "frights", "kinds", "whom", "duel", "odds", "mid", "lots", "asked", "upper", "lower",
        "count", "findings", "call", "digest",
    };

    private long ofReal(int method, int a, int b, int c) {
        return switch (NAMES[method]) {
            case "row" -> real.row(a, b);
            case "lay" -> real.lay(a, b, c);
            case "at" -> real.at(a, b);
            case "tear" -> real.tear(a);
            case "mean" -> real.mean(a);
            case "text" -> real.text(a, b);
            case "put" -> real.put(a, b, c);
            case "fault" -> real.fault(a);
            case "house" -> real.house(a);
            case "sitter" -> real.sitter(a, b);
            case "mark" -> real.mark(a, b);
            case "lines" -> real.lines(a);
            case "call" -> real.call(a);
            case "cut" -> real.cut();
            case "change" -> real.change(a, b);
            case "undo" -> real.undo(a);
            case "keep" -> real.keep(a);
            case "on" -> real.on(a);
            case "can" -> real.can();
            case "applause" -> real.applause();
            case "play" -> real.play(a);
            case "best" -> real.best(a);
            case "least" -> real.least();
            case "ways" -> real.ways(a);
            case "seats" -> real.seats();
            case "beside" -> real.beside();
            case "apart" -> real.apart();
            case "frights" -> real.frights(a, b);
            case "kinds" -> real.kinds(a, b);
            case "whom" -> real.whom(a);
            case "duel" -> real.duel(a);
            case "odds" -> real.odds(a);
            case "mid" -> real.mid();
            case "lots" -> real.lots(a);
            case "asked" -> real.asked();
            case "upper" -> real.upper();
            case "lower" -> real.lower();
            case "count" -> real.count(a);
            case "findings" -> real.findings(a);
            default -> real.digest();
        };
    }

    private long ofModel(int method, int a, int b, int c) {
        return switch (NAMES[method]) {
            case "row" -> model.row(a, b);
            case "lay" -> model.lay(a, b, c);
            case "at" -> model.at(a, b);
            case "tear" -> model.tear(a);
            case "mean" -> model.mean(a);
            case "text" -> model.text(a, b);
            case "put" -> model.put(a, b, c);
            case "fault" -> model.fault(a);
            case "house" -> model.house(a);
            case "sitter" -> model.sitter(a, b);
            case "mark" -> model.mark(a, b);
            case "lines" -> model.lines(a);
            case "call" -> model.call(a);
            case "cut" -> model.cut();
            case "change" -> model.change(a, b);
            case "undo" -> model.undo(a);
            case "keep" -> model.keep(a);
            case "on" -> model.on(a);
            case "can" -> model.can();
            case "applause" -> model.applause();
            case "play" -> model.play(a);
            case "best" -> model.best(a);
            case "least" -> model.least();
            case "ways" -> model.ways(a);
            case "seats" -> model.seats();
            case "beside" -> model.beside();
            case "apart" -> model.apart();
            case "frights" -> model.frights(a, b);
            case "kinds" -> model.kinds(a, b);
            case "whom" -> model.whom(a);
            case "duel" -> model.duel(a);
            case "odds" -> model.odds(a);
            case "mid" -> model.mid();
            case "lots" -> model.lots(a);
            case "asked" -> model.asked();
            case "upper" -> model.upper();
            case "lower" -> model.lower();
            case "count" -> model.count(a);
            case "findings" -> model.findings(a);
            default -> model.digest();
        };
    }
}
