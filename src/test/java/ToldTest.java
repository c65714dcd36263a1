/** Promises 36 to 43 by hand: what is told, counted, found, digested. */
public final class ToldTest extends Bench {
    private static final String FIVE = "a2641 s130 c050 k255 w709 s350";

    public static void main(String[] args) {
        begin("ToldTest");
        asked();
        notAsked();
        fractions();
        counts();
        applauses();
        findingsToo();
        digests();
        refusalsChangeNothing();
        end();
    }

    private static void asked() {
        fresh("36 asked");
        is("at first", x.asked(), 0);
        house(FIVE);
        row(0, 4, 5);
        is("by lay()", x.asked(), 0);
        tells("lay(0, 1, 8)", x.lay(0, 1, 8), 1, 5);
        tells("at(0, 0)", x.at(0, 0), 1, 4);
        tells("mean(0)", x.mean(0), 1, 6);
        tells("sitter(2, 0)", x.sitter(2, 0), 1, 2);
        tells("least()", x.least(), 0, 1);
        tells("best(1)", x.best(1), 3, 0);
        tells("play(1)", x.play(1), 3, 6);
        tells("ways(3)", x.ways(3), 1, 1 | 2 | 16);
        tells("beside()", x.beside(), 3, 4);
        tells("apart()", x.apart(), 2, 1 | 4);
        tells("whom(1)", x.whom(1), 16, 3);
        tells("frights(0, 2)", x.row(2, 0), 0, 3);
        tells("frights(0, 2)", x.frights(0, 2), 1023, 1023);
        tells("call(0)", x.call(0), 0, 3);
        house("a05 k060 s110");
        tells("seats()", x.seats(), 1, 1);
    }

    private static void notAsked() {
        fresh("36 asked, not told");
        house(FIVE);
        x.sitter(0, 2);
        row(4);
        int[] answers = {
            x.kinds(0, 4), x.duel(2), x.odds(1), x.mid(), x.can(), x.mark(1, 1), x.lines(0), x.count(0), x.seats(),
            x.cut(), x.change(0, 1), x.keep(0), x.on(0), x.undo(1), x.lots(9), x.fault(0), x.applause(), x.at(0, 0),
            x.mean(4), x.call(9), x.play(9), x.best(9), x.ways(9), x.frights(9, 9), x.whom(0), x.sitter(9, 9),
        };
        is("calls were made", answers.length, 26);
        is("asked() stays", x.asked(), 3);
        x.digest();
        is("asked() stays by digest()", x.asked(), 3);
    }

    private static void fractions() {
        fresh("37, 38 upper, lower");
        is("upper() at first", x.upper(), 0);
        is("lower() at first", x.lower(), 1);
        house("a02 s020 s110 s310 s410");
        tellsFraction("odds(1)", x.odds(1), 1, 4);
        tellsFraction("mid()", x.mid(), -1, 4);
        x.odds(7);
        x.ways(-1);
        x.best(0);
        x.sitter(0, 2);
        is("upper() stays", x.upper(), -1);
        is("lower() stays", x.lower(), 4);
        tellsFraction("ways(1)", x.ways(1), 1, 1);
        is("asked() by ways()", x.asked(), 1);
    }

    private static void counts() {
        fresh("39 count");
        house("a3456 c000 u130 q242 s309");
        is("SITTERS", x.count(0), 4);
        is("SCENES", x.count(1), 3);
        is("the SCENE", x.count(2), 0);
        is("DEEDS", x.count(3), 0);
        is("PROMPTS", x.count(4), 3);
        is("SHAME", x.count(5), 0);
        is("CARRIED", x.count(6), 0);
        is("CLERKS", x.count(7), 3);
        is("ROWS", x.count(8), 0);
        is("TEXTS", x.count(9), 1);
        is("kept HOUSES", x.count(10), 0);
        is("count(11)", x.count(11), BAD);
        is("count(-1)", x.count(-1), BAD);
        x.call(0);
        x.change(0, 1);
        x.keep(2);
        x.row(5, 0);
        x.text(3, 0);
        is("the SCENE then", x.count(2), 1);
        is("DEEDS then", x.count(3), 2);
        is("PROMPTS then", x.count(4), 1);
        is("SHAME then", x.count(5), 2);
        is("CARRIED then", x.count(6), 1);
        is("CLERKS then", x.count(7), 3);
        is("ROWS then", x.count(8), 1);
        is("TEXTS then", x.count(9), 2);
        is("kept HOUSES then", x.count(10), 1);
        x.cut();
        x.cut();
        is("the SCENE behind all", x.count(2), 3);
    }

    private static void applauses() {
        fresh("40 applause");
        is("at first", x.applause(), 1000);
        house("a1191 s010 s100 s210");
        x.call(0);
        is("nothing lacking", x.applause(), 1002);
        x.call(1);
        is("not carried", x.applause(), 1001);
        x.undo(1);
        x.cut();
        is("cut", x.applause(), 1002);
        x.call(1);
        is("with a prompt", x.applause(), 1003);
        house("a099 s000 s100");
        x.call(0);
        x.call(1);
        is("below 0", x.applause(), 998);
    }

    private static void findingsToo() {
        fresh("41, 42 finding, findings");
        is("finding() at first", x.finding(), 0);
        for (int f = 1; f <= 5; f++) {
            is("findings(" + f + ") at first", x.findings(f), 0);
        }
        is("findings(0)", x.findings(0), BAD);
        is("findings(6)", x.findings(6), BAD);
        is("findings(-1)", x.findings(-1), BAD);
        finds("at(0, 0)", x.at(0, 0), NOTHING);
        x.row(0, 0);
        finds("at(0, 0)", x.at(0, 0), BEYOND);
        finds("mean(0)", x.mean(0), NOUGHT);
        finds("mean(0)", x.mean(0), NOUGHT);
        finds("row(0, -1)", x.row(0, -1), SIZE);
        house("a01s000");
        finds("mark(0, 1)", x.mark(0, 1), UNLIKE);
        x.at(6, 0);
        x.cut();
        x.cut();
        is("finding() is the latest", x.finding(), UNLIKE);
        int[] due = {0, 1, 1, 1, 2, 1};
        for (int f = 1; f <= 5; f++) {
            is("findings(" + f + ")", x.findings(f), due[f]);
        }
    }

    private static long fold(long begun, long... values) {
        long h = begun;
        for (long v : values) {
            h = 31 * h + v;
        }
        return h;
    }

    private static void digests() {
        fresh("43 digest");
        write(1, "a2641 s130 c050");
        x.put(1, 5, -3);
        x.text(3, 0);
        row(0, 7, -8);
        row(4);
        house("a264 s130 c050");
        x.call(0);
        x.keep(1);
        x.change(0, 1);
        x.keep(2);
        long h = fold(17, 2, 2, 1, 2, 2, 0, 0, 1, 2, 3, 2, 999, 6, 4);
        h = fold(h, 0, 0, 3, 0, 1, 2, 1, 0);
        h = fold(h, 1, 1, 5, 0, 1, 6, 0, 1);
        h = fold(h, -1, 1, 2);
        h = fold(h, 2, 7, -8, -1, -1, -1, 0, -1);
        h = fold(h, 14, 97, 50, 54, 52, 32, 115, 49, 51, 48, 32, 99, 48, 53, 48);
        h = fold(h, 15, 97, 50, 54, 52, 49, -3, 115, 49, 51, 48, 32, 99, 48, 53, 48);
        h = fold(h, -1, 0);
        is("digest()", x.digest(), h);
        is("digest() again", x.digest(), h);
    }

    private static void refusalsChangeNothing() {
        fresh("Terms: what is refused");
        house(FIVE);
        row(0, 1, 2);
        x.call(0);
        x.keep(1);
        x.odds(1);
        long before = x.digest();
        long upper = x.upper();
        int asked = x.asked();
        int[] refused = {
            x.row(0, 41), x.row(0, -1), x.lay(0, 2, 5), x.at(0, -1), x.tear(1), x.copy(0, 0, 0, 1, 2), x.mean(1),
            x.text(0, 61), x.text(0, -1), x.put(0, 60, 1), x.fault(1), x.house(1), x.sitter(5, 0), x.mark(0, 5),
            x.lines(3), x.call(0), x.change(2, 2), x.undo(2), x.keep(3), x.on(0), x.play(1), x.best(6), x.ways(7),
            x.frights(0, 0), x.kinds(0, 0), x.whom(10), x.duel(5), x.odds(7), x.lots(0), x.count(11), x.findings(6),
        };
        for (int k = 0; k < refused.length; k++) {
            due.holds(promise + ": call " + k + " is refused", refused[k] < 0);
        }
        is("digest()", x.digest(), before);
        is("upper()", x.upper(), upper);
        is("asked()", x.asked(), asked);
    }
}
