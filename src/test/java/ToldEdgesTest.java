import java.util.function.IntSupplier;

/** Promises 36 to 43 at their boundaries: what is told, counted, found, digested. */
public final class ToldEdgesTest extends Bench {
    private static final String SIX_ALIKE = "a0111111 s090s190s290s390s490s590";
    private static final String SIX_FAIL = "a0999999 s000s100s200s300s400s500";
    private static final int MARK = 12345;

    public static void main(String[] args) {
        begin("ToldEdgesTest");
        askedBefore();
        askedByThoseThatTell();
        askedByRefusals();
        askedByNone();
        askedByOthers();
        fractionsBefore();
        fractionsTold();
        countsRefused();
        countsAtTheirEdges();
        applause();
        finding();
        findings();
        digestOfNothing();
        digestOfFullRows();
        digestOfHouses();
        digestStays();
        end();
    }

    /** So that it shows whether a call tells: asked() is a number that no call of the test tells. */
    private static void setAsked() {
        x.row(4, 1);
        x.lay(4, 0, MARK);
        x.at(4, 0);
    }

    private static void tellsAnew(String what, int asked, IntSupplier call) {
        setAsked();
        due.holds(promise + ": " + what + " is not refused", call.getAsInt() >= 0);
        is(what + " asked()", x.asked(), asked);
    }

    private static void tellsNot(String what, IntSupplier call) {
        setAsked();
        call.getAsInt();
        is(what + " asked()", x.asked(), MARK);
    }

    private static void askedBefore() {
        edge(36, "0 before.");
        is("asked()", x.asked(), 0);
        x.at(0, 0);
        x.at(6, 0);
        is("asked() behind refusals", x.asked(), 0);
        house("a01s090");
        is("asked() behind a HOUSE", x.asked(), 0);
        x.row(0, 3);
        x.duel(1);
        x.odds(1);
        x.kinds(0, 0);
        x.digest();
        is("asked() behind calls that tell nothing", x.asked(), 0);
    }

    private static void askedByThoseThatTell() {
        edge(36, "What the latest lay(), at(), mean(), sitter(), call(), play(), best(), least(), ways(), seats(),"
                + " beside(), apart(), frights(), whom() that was not refused (nor answered NONE) told");
        house("a25 k060 s110 s231");
        row(0, 8, 9);
        tellsAnew("lay", 8, () -> x.lay(0, 0, 7));
        tellsAnew("at", 7, () -> x.at(0, 0));
        tellsAnew("mean", 8, () -> x.mean(0));
        tellsAnew("sitter", 2, () -> x.sitter(0, 0));
        tellsAnew("best", 0, () -> x.best(1));
        tellsAnew("play", 0, () -> x.play(1));
        tellsAnew("least", 2, () -> x.least());
        tellsAnew("ways", 0, () -> x.ways(1));
        tellsAnew("seats", 1, () -> x.seats());
        tellsAnew("beside", 3, () -> x.beside());
        tellsAnew("apart", 2, () -> x.apart());
        x.row(2, 0);
        tellsAnew("frights", 1023, () -> x.frights(0, 2));
        tellsAnew("whom", 2, () -> x.whom(0));
        tellsAnew("call", 4, () -> x.call(1));
    }

    private static void askedByRefusals() {
        edge(36, "that was not refused");
        tellsNot("best() of nobody", () -> x.best(0));
        tellsNot("least() of nobody", () -> x.least());
        tellsNot("seats() of nobody", () -> x.seats());
        tellsNot("beside() of nobody", () -> x.beside());
        tellsNot("apart() of nobody", () -> x.apart());
        house("a25 s060 s110 s231");
        tellsNot("lay", () -> x.lay(0, 0, 7));
        tellsNot("at", () -> x.at(4, 1));
        tellsNot("mean", () -> x.mean(5));
        tellsNot("sitter", () -> x.sitter(0, 8));
        tellsNot("play", () -> x.play(4));
        tellsNot("best", () -> x.best(6));
        tellsNot("ways", () -> x.ways(7));
        tellsNot("frights", () -> x.frights(0, 4));
        tellsNot("whom", () -> x.whom(10));
        tellsNot("call", () -> x.call(3));
        changes(40);
        tellsNot("call with 40 DEEDS", () -> x.call(0));
    }

    private static void askedByNone() {
        edge(36, "(nor answered NONE)");
        house("a011 s010 k200");
        tellsNot("least() that answers NONE", () -> x.least());
        tellsNot("seats() that answers NONE", () -> x.seats());
        tellsNot("fault() that answers NONE", () -> x.fault(0));
    }

    private static void askedByOthers() {
        edge(36, "What the latest lay(), at(), mean(), sitter(), call(), play(), best(), least(), ways(), seats(),");
        house("a2111 u090 s190 s290");
        row(0, 1, 2);
        IntSupplier[] others = {
            () -> x.row(1, 3), () -> x.copy(0, 0, 1, 0, 2), () -> x.tear(1), () -> x.text(1, 2),
            () -> x.put(1, 0, 65), () -> x.fault(1), () -> x.mark(0, 1), () -> x.lines(0), () -> x.cut(),
            () -> x.change(0, 1), () -> x.keep(0), () -> x.on(0), () -> x.undo(0), () -> x.can(), () -> x.duel(2),
            () -> x.odds(1), () -> x.mid(), () -> x.count(0), () -> x.applause(), () -> x.finding(),
            () -> x.findings(1), () -> (int) x.digest(), () -> (int) x.upper(), () -> (int) x.lower(),
            () -> x.lots(3), () -> x.asked(), () -> x.house(0),
        };
        for (int k = 0; k < others.length; k++) {
            tellsNot("call " + k, others[k]);
        }
        x.row(0, 0);
        tellsNot("kinds", () -> x.kinds(0, 0));
    }

    private static void fractionsBefore() {
        edge(37, "The upper number that was told last; 0 before.");
        is("upper()", x.upper(), 0);
        x.odds(0);
        x.mid();
        x.ways(0);
        is("upper() behind refusals", x.upper(), 0);
        edge(38, "Its lower number; 1 before.");
        is("lower()", x.lower(), 1);
        x.odds(7);
        x.mid();
        x.ways(7);
        is("lower() behind refusals", x.lower(), 1);
        house("a05 s050");
        is("lower() behind a HOUSE", x.lower(), 1);
    }

    private static void fractionsTold() {
        edge(37, "The upper number that was told last");
        house("a05 s050 s100 s200 s300");
        tellsFraction("odds", x.odds(1), 1, 4);
        tellsFraction("mid", x.mid(), -1, 4);
        refuses("ways(7)", BAD, () -> x.ways(7));
        refuses("odds(7)", BAD, () -> x.odds(7));
        is("upper() behind refusals", x.upper(), -1);
        tellsFraction("ways", x.ways(0), 5, 1);
        x.duel(1);
        x.lots(1);
        x.house(0);
        is("upper() behind other calls", x.upper(), 5);
        tellsFraction("no ways", x.ways(6), 0, 1);

        edge(38, "Its lower number");
        house("a05 s050 s100 s200 s300");
        tellsFraction("odds", x.odds(1), 1, 4);
        x.duel(1);
        x.best(0);
        is("lower() behind other calls", x.lower(), 4);
        tellsFraction("ways", x.ways(1), 1, 1);
        tellsFraction("mid", x.mid(), -1, 4);
        tellsFraction("no chance", x.odds(2), 0, 1);
    }

    private static void countsRefused() {
        edge(39, "10 kept HOUSES. BAD.");
        is("count(0)", x.count(0), 0);
        is("count(10)", x.count(10), 0);
        for (int what : new int[] {-1, 11, MIN, MAX}) {
            refuses("count(" + what + ")", BAD, () -> x.count(what));
        }
    }

    private static void counts(String what, int... due) {
        for (int k = 0; k < due.length; k++) {
            is(what + ": count(" + k + ")", x.count(k), due[k]);
        }
    }

    private static void countsAtTheirEdges() {
        edge(39, "0 SITTERS, 1 SCENES, 2 the SCENE that is due (SCENES: all are over), 3 DEEDS, 4 PROMPTS, 5 SHAME,"
                + " 6 SCENES CARRIED, 7 CLERKS (UNCLES, CLAQUES, too), 8 ROWS, 9 TEXTS that are there, 10 kept HOUSES.");
        counts("nothing", 0, 0, 0, 0, 0, 0, 0, 0, 0, 0, 0);
        house("a01s000");
        counts("the least", 1, 1, 0, 0, 0, 0, 0, 0, 0, 1, 0);
        house("a9111111 c090u190q290c390u490q590");
        for (int r = 0; r < 6; r++) {
            x.row(r, r);
        }
        for (int t = 0; t < 4; t++) {
            x.text(t, t);
        }
        for (int k = 0; k < 3; k++) {
            x.keep(k);
        }
        counts("the most, at first", 6, 6, 0, 0, 9, 0, 0, 6, 6, 4, 3);
        changes(34);
        for (int i = 0; i < 6; i++) {
            x.call(i);
            is("the SCENE behind call(" + i + ")", x.count(2), i + 1);
        }
        counts("all are over", 6, 6, 6, 40, 9, 0, 6, 6, 6, 4, 3);
        x.tear(0);
        x.on(0);
        counts("on a kept one", 6, 6, 0, 0, 9, 0, 0, 6, 5, 4, 3);
        house("a99 s000 k100 w200");
        x.call(0);
        counts("all PROMPTS gone", 3, 1, 1, 1, 0, 9, 1, 0, 5, 4, 0);
        house("a011 s000 c100");
        x.call(0);
        x.cut();
        counts("nothing CARRIED", 2, 2, 2, 2, 0, 0, 0, 1, 5, 4, 0);
    }

    private static void applause() {
        edge(40, "APPLAUSE now, and 1000 more.");
        is("without a HOUSE", x.applause(), 1000);
        house(SIX_ALIKE);
        is("at first", x.applause(), 1000);
        for (int i = 0; i < 6; i++) {
            x.call(i);
            is("behind call(" + i + ")", x.applause(), 1002 + 2 * i);
        }
        house(SIX_FAIL);
        is("anew", x.applause(), 1000);
        for (int i = 0; i < 6; i++) {
            x.call(i);
            is("behind call(" + i + ") that fails", x.applause(), 999 - i);
        }
        x.undo(1);
        is("undone", x.applause(), 999);
        is("asked() is not told", x.asked(), 9);
    }

    private static void finding() {
        edge(41, "The latest FINDING (0 before any).");
        is("before any", x.finding(), 0);
        x.row(6, 0);
        x.best(0);
        is("behind BAD and STATE", x.finding(), 0);
        finds("NOTHING", NOTHING, () -> x.at(0, 0));
        finds("SIZE", SIZE, () -> x.row(0, -1));
        x.row(0, 0);
        is("behind a call that is not refused", x.finding(), SIZE);
        finds("NOUGHT", NOUGHT, () -> x.mean(0));
        finds("BEYOND", BEYOND, () -> x.at(0, 0));
        house("a011s000s100");
        finds("UNLIKE", UNLIKE, () -> x.mark(0, 1));
        changes(40);
        refuses("FULL", FULL, () -> x.cut());
        is("behind a HOUSE and FULL", x.finding(), UNLIKE);
        x.best(1);
        x.least();
        x.seats();
        is("behind NONE", x.finding(), UNLIKE);
    }

    private static void findings() {
        edge(42, "How often a FINDING (1 .. 5) was answered. BAD.");
        for (int f = 1; f <= 5; f++) {
            is("findings(" + f + ") at first", x.findings(f), 0);
        }
        for (int f : new int[] {-1, 0, 6, MIN, MAX}) {
            refuses("findings(" + f + ")", BAD, () -> x.findings(f));
        }
        house("a01s000");
        x.row(0, 0);
        for (int round = 1; round <= 3; round++) {
            finds("NOTHING", NOTHING, () -> x.tear(1));
            finds("BEYOND", BEYOND, () -> x.lay(0, 0, 0));
            finds("UNLIKE", UNLIKE, () -> x.mark(0, 2));
            finds("NOUGHT", NOUGHT, () -> x.mean(0));
            finds("SIZE", SIZE, () -> x.text(0, -1));
            for (int f = 1; f <= 5; f++) {
                is("findings(" + f + ")", x.findings(f), round);
            }
        }
        x.house(0);
        is("a HOUSE leaves them", x.findings(1), 3);
    }

    /** Holds h over from call to call, as the document says it. */
    private static final class Fold {
        private long h = 17;

        private Fold with(long... values) {
            for (long v : values) {
                h = 31 * h + v;
            }
            return this;
        }

        private Fold often(int n, long v) {
            for (int k = 0; k < n; k++) {
                with(v);
            }
            return this;
        }
    }

    private static void digestOfNothing() {
        edge(43, "h = 17; then h = 31 h + v for each v");
        Fold fold = new Fold().often(11, 0).with(1000).often(3, -1).often(6, -1).often(4, -1);
        is("digest()", x.digest(), fold.h);
    }

    private static void digestOfFullRows() {
        edge(43, "of each ROW its size (-1: missing) and places, of each TEXT likewise.");
        Fold fold = new Fold().often(8, 0).with(3, 2, 0, 1000).often(3, -1);
        x.row(0, 40);
        fold.with(40);
        for (int i = 0; i < 40; i++) {
            x.lay(0, i, i % 2 == 0 ? MIN : MAX);
            fold.with(i % 2 == 0 ? MIN : MAX);
        }
        x.row(3, 0);
        row(5, -1);
        fold.with(-1, -1, 0, -1, 1, -1);
        x.text(0, 0);
        x.text(3, 60);
        fold.with(0, -1, -1, 60);
        for (int i = 0; i < 60; i++) {
            int v = i % 2 == 0 ? -128 : 127;
            x.put(3, i, v);
            fold.with(v);
        }
        is("digest()", x.digest(), fold.h);
        long before = x.digest();
        x.tear(3);
        due.holds(promise + ": an empty ROW is not digested as a missing one", x.digest() != before);
    }

    private static void digestOfHouses() {
        edge(43, "count() 0 to 10; applause(); LINES of each SCENE; of each SITTER sitter() 0 to 7;"
                + " of each kept HOUSE how many DEEDS (-1: missing)");
        house("a999 s000 k209");
        x.text(0, 0);
        Fold fold = new Fold().with(2, 2, 0, 0, 9, 0, 0, 0, 0, 1, 0, 1000, 9, 9);
        fold.with(0, 0, 0, 0, 0, 0, 0, 1).with(2, 2, 0, 9, 9, 0, 0, 0);
        fold.often(3, -1).often(6, -1).with(0).often(3, -1);
        is("at first", x.digest(), fold.h);
        x.keep(1);
        changes(38);
        x.call(0);
        x.cut();
        x.keep(2);
        fold = new Fold().with(2, 2, 2, 40, 0, 9, 1, 0, 0, 1, 2, 1001, 9, 9);
        fold.with(0, 0, 0, 0, 0, 0, 1, 0).with(2, 2, 0, 9, 8, 0, 0, 0);
        fold.with(-1, 0, 40).often(6, -1).with(0).often(3, -1);
        is("by 40 DEEDS", x.digest(), fold.h);
        house("a055 c090 q100");
        x.text(0, 0);
        x.call(1);
        fold = new Fold().with(2, 2, 1, 1, 0, 0, 0, 2, 0, 1, 0, 999, 5, 5);
        fold.with(1, 0, 9, 0, 1, 10, 0, 1).with(5, 1, 0, 0, 0, 2, 1, 0);
        fold.often(3, -1).often(6, -1).with(0).often(3, -1);
        is("by APPLAUSE below 0", x.digest(), fold.h);
    }

    private static void digestStays() {
        edge(43, "what it tells, not the 1 that it answers; asked() stays");
        house("a05 s059");
        x.sitter(0, 2);
        long first = x.digest();
        is("asked() stays", x.asked(), 5);
        is("upper() stays", x.upper(), 0);
        is("lower() stays", x.lower(), 1);
        is("finding() stays", x.finding(), 0);
        is("the same again", x.digest(), first);
        x.odds(0);
        x.beside();
        x.at(0, 0);
        is("what was told is not digested", x.digest(), first);
    }
}
