import java.util.Arrays;
import java.util.function.IntSupplier;

/** An object under test, and ways to say what is due of it; each test of promises begins on a fresh one. */
abstract class Bench {
    static final int BAD = -1, FULL = -2, FINDING = -3, STATE = -4, NONE = -9;
    static final int MIN = Integer.MIN_VALUE, MAX = Integer.MAX_VALUE;
    static final int NOTHING = 1, BEYOND = 2, UNLIKE = 3, NOUGHT = 4, SIZE = 5;

    static Due due;
    static Counted x;
    static String promise;

    static void begin(String test) {
        due = new Due(test);
    }

    static void fresh(String name) {
        endOfUse();
        promise = name;
        x = new Counted();
    }

    /** The same test goes on with another object. */
    static void renew() {
        fresh(promise);
    }

    private static void endOfUse() {
        due.holds(promise + ": no more than 512 calls of one object", x == null || !x.isUsedTooLong());
    }

    static void end() {
        endOfUse();
        due.end();
    }

    /** A test of its own for a sentence of the document, quoted as it stands there, of a promise or of the terms. */
    static void edge(int number, String sentence) {
        fresh(number + " \"" + sentence + "\"");
        due.holds(promise + " stands in the document", Document.says(number, sentence));
    }

    static void is(String what, long got, long want) {
        due.is(promise + ": " + what, got, want);
    }

    static void finds(String what, long got, int finding) {
        is(what, got, FINDING);
        is(what + " finding()", x.finding(), finding);
    }

    static void tells(String what, long got, long want, int asked) {
        is(what, got, want);
        is(what + " asked()", x.asked(), asked);
    }

    static void tellsFraction(String what, long got, long upper, long lower) {
        is(what, got, 1);
        is(what + " upper()", x.upper(), upper);
        is(what + " lower()", x.lower(), lower);
    }

    static void write(int t, String s) {
        x.text(t, s.length());
        for (int i = 0; i < s.length(); i++) {
            x.put(t, i, s.charAt(i));
        }
    }

    static void house(String s) {
        write(0, s);
        due.holds(promise + ": house of " + s, x.house(0) > 0);
    }

    static void row(int r, int... values) {
        x.row(r, values.length);
        for (int i = 0; i < values.length; i++) {
            x.lay(r, i, values[i]);
        }
    }

    static void rowIs(String what, int r, int... values) {
        for (int i = 0; i < values.length; i++) {
            tells(what + " place " + i, x.at(r, i), 1, values[i]);
        }
        finds(what + " behind", x.at(r, values.length), BEYOND);
    }

    /** So many scenes are over by cuts. */
    static void over(int scenes) {
        for (int k = 0; k < scenes; k++) {
            x.cut();
        }
    }

    /** So many deeds more that leave all seats as they were, if their number is even. */
    static void changes(int n) {
        for (int k = 0; k < n; k++) {
            due.holds(promise + ": change " + k, x.change(0, 1) >= 0);
        }
    }

    /** All that a refused call must leave as it is, and the findings behind that. */
    private static long[] told() {
        return new long[] {
            x.digest(), x.asked(), x.upper(), x.lower(), x.finding(),
            x.findings(1), x.findings(2), x.findings(3), x.findings(4), x.findings(5),
        };
    }

    /** A refusal that is no FINDING changes nothing at all. */
    static void refuses(String what, int answer, IntSupplier call) {
        long[] before = told();
        is(what, call.getAsInt(), answer);
        due.holds(promise + ": " + what + " changes nothing", Arrays.equals(told(), before));
    }

    /** A refusal by a FINDING changes finding() and findings() alone. */
    static void finds(String what, int finding, IntSupplier call) {
        long[] due = told();
        due[4] = finding;
        due[4 + finding]++;
        is(what, call.getAsInt(), FINDING);
        Bench.due.holds(promise + ": " + what + " changes the findings alone", Arrays.equals(told(), due));
    }
}
