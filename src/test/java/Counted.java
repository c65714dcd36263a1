/** The class under test; counts the calls of an object, since what it answers behind its 512th call is free. */
final class Counted {
    private static final int MOST = 512;

    private final CalledStalls real = new CalledStalls();
    private int calls;

    boolean isUsedTooLong() {
        return calls > MOST;
    }

    int callsLeft() {
        return MOST - calls;
    }

    private CalledStalls real() {
        calls++;
        return real;
    }

    int row(int r, int n) {
        return real().row(r, n);
    }

    int lay(int r, int i, int v) {
        return real().lay(r, i, v);
    }

    int at(int r, int i) {
        return real().at(r, i);
    }

    int tear(int r) {
        return real().tear(r);
    }

    int copy(int r, int i, int to, int j, int n) {
        return real().copy(r, i, to, j, n);
    }

    int mean(int r) {
        return real().mean(r);
    }

    int text(int t, int n) {
        return real().text(t, n);
    }

    int put(int t, int i, int v) {
        return real().put(t, i, v);
    }

    int fault(int t) {
        return real().fault(t);
    }

    int house(int t) {
        return real().house(t);
    }

    int sitter(int i, int what) {
        return real().sitter(i, what);
    }

    int mark(int i, int kind) {
        return real().mark(i, kind);
    }

    int lines(int scene) {
        return real().lines(scene);
    }

    int call(int i) {
        return real().call(i);
    }

    int cut() {
        return real().cut();
    }

    int change(int i, int j) {
        return real().change(i, j);
    }

    int undo(int n) {
        return real().undo(n);
    }

    int keep(int k) {
        return real().keep(k);
    }

    int on(int k) {
        return real().on(k);
    }

    int can() {
        return real().can();
    }

    int play(int r) {
        return real().play(r);
    }

    int best(int r) {
        return real().best(r);
    }

    int least() {
        return real().least();
    }

    int ways(int n) {
        return real().ways(n);
    }

    int seats() {
        return real().seats();
    }

    int beside() {
        return real().beside();
    }

    int apart() {
        return real().apart();
    }

    int frights(int i, int r) {
        return real().frights(i, r);
    }

    int kinds(int i, int r) {
        return real().kinds(i, r);
    }

    int whom(int lacking) {
        return real().whom(lacking);
    }

    int duel(int n) {
        return real().duel(n);
    }

    int odds(int n) {
        return real().odds(n);
    }

    int mid() {
        return real().mid();
    }

    int lots(int seed) {
        return real().lots(seed);
    }

    int asked() {
        return real().asked();
    }

    long upper() {
        return real().upper();
    }

    long lower() {
        return real().lower();
    }

    int count(int what) {
        return real().count(what);
    }

    int applause() {
        return real().applause();
    }

    int finding() {
        return real().finding();
    }

    int findings(int f) {
        return real().findings(f);
    }

    long digest() {
        return real().digest();
    }
}
