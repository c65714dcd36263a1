/** An object under test, and ways to say what is due of it; each test of promises begins on a fresh one. */
abstract class Bench {
    static final int BAD = -1, FULL = -2, FINDING = -3, STATE = -4, NONE = -9;
    static final int NOTHING = 1, BEYOND = 2, UNLIKE = 3, NOUGHT = 4, SIZE = 5;

    static Due due;
    static CalledStalls x;
    static String promise;

    static void begin(String test) {
        due = new Due(test);
    }

    static void fresh(String name) {
        promise = name;
        x = new CalledStalls();
    }

    static void is(String what, long got, long want) {
        due.is(promise + ": " + what, got, want);
    }

    static void finds(String what, long got, int finding) {
        is(what, got, FINDING);
        is(what + " finding()", x.finding(), finding);
    }

    static void tells(String what, long got, long want, int asked) {
        is(what, got, want);
        is(what + " asked()", x.asked(), asked);
    }

    static void tellsFraction(String what, long got, long upper, long lower) {
        is(what, got, 1);
        is(what + " upper()", x.upper(), upper);
        is(what + " lower()", x.lower(), lower);
    }

    static void write(int t, String s) {
        x.text(t, s.length());
        for (int i = 0; i < s.length(); i++) {
            x.put(t, i, s.charAt(i));
        }
    }

    static void house(String s) {
        write(0, s);
        due.holds(promise + ": house of " + s, x.house(0) > 0);
    }

    static void row(int r, int... values) {
        x.row(r, values.length);
        for (int i = 0; i < values.length; i++) {
            x.lay(r, i, values[i]);
        }
    }

    static void rowIs(String what, int r, int... values) {
        for (int i = 0; i < values.length; i++) {
            tells(what + " place " + i, x.at(r, i), 1, values[i]);
        }
        finds(what + " behind", x.at(r, values.length), BEYOND);
    }

    /** So many deeds more that leave all seats as they were, if their number is even. */
    static void changes(int n) {
        for (int k = 0; k < n; k++) {
            due.holds(promise + ": change " + k, x.change(0, 1) >= 0);
        }
    }
}
