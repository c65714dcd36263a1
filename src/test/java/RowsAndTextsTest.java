/** Promises 1 to 11 by hand: rows, texts, the small language, houses. */
public final class RowsAndTextsTest extends Bench {
    public static void main(String[] args) {
        begin("RowsAndTextsTest");
        newObject();
        rows();
        copies();
        means();
        texts();
        faults();
        houses();
        end();
    }

    private static void newObject() {
        fresh("1 new");
        for (int what = 0; what <= 10; what++) {
            is("count(" + what + ")", x.count(what), 0);
        }
        is("applause()", x.applause(), 1000);
        is("asked()", x.asked(), 0);
        is("upper()", x.upper(), 0);
        is("lower()", x.lower(), 1);
        is("finding()", x.finding(), 0);
        is("can()", x.can(), 0);
        is("sitter(0, 0)", x.sitter(0, 0), BAD);
        finds("at(0, 0)", x.at(0, 0), NOTHING);
        finds("fault(0)", x.fault(0), NOTHING);
        finds("on(0)", x.on(0), NOTHING);
        long h = 17;
        for (int k = 0; k < 11; k++) {
            h = 31 * h;
        }
        h = 31 * h + 1000;
        for (int k = 0; k < 3 + 6 + 4; k++) {
            h = 31 * h - 1;
        }
        is("digest()", x.digest(), h);
    }

    private static void rows() {
        fresh("2 row");
        is("row(0, 0)", x.row(0, 0), 0);
        is("row(5, 40)", x.row(5, 40), 40);
        is("row(0, 41)", x.row(0, 41), BAD);
        is("row(6, 1)", x.row(6, 1), BAD);
        is("row(-1, 1)", x.row(-1, 1), BAD);
        is("row(6, -1)", x.row(6, -1), BAD);
        is("finding() of none", x.finding(), 0);
        finds("row(5, -1)", x.row(5, -1), SIZE);
        is("the row is left", x.at(5, 39), 1);
        x.lay(5, 0, 7);
        is("row(5, 1) anew", x.row(5, 1), 1);
        tells("at(5, 0)", x.at(5, 0), 1, 0);

        fresh("3 lay");
        finds("lay(2, 0, 1)", x.lay(2, 0, 1), NOTHING);
        x.row(2, 3);
        tells("lay(2, 2, -7)", x.lay(2, 2, -7), 1, 0);
        tells("lay(2, 2, 2147483647)", x.lay(2, 2, Integer.MAX_VALUE), 1, -7);
        finds("lay(2, 3, 1)", x.lay(2, 3, 1), BEYOND);
        finds("lay(2, -1, 1)", x.lay(2, -1, 1), BEYOND);
        is("lay(6, 0, 1)", x.lay(6, 0, 1), BAD);
        is("lay(-1, 9, 1)", x.lay(-1, 9, 1), BAD);
        is("asked() after a refusal", x.asked(), -7);

        promise = "4 at";
        tells("at(2, 2)", x.at(2, 2), 1, Integer.MAX_VALUE);
        tells("at(2, 0)", x.at(2, 0), 1, 0);
        finds("at(2, 3)", x.at(2, 3), BEYOND);
        finds("at(3, 0)", x.at(3, 0), NOTHING);
        is("at(6, 0)", x.at(6, 0), BAD);

        promise = "5 tear";
        is("tear(6)", x.tear(6), BAD);
        is("tear(-1)", x.tear(-1), BAD);
        is("tear(2)", x.tear(2), 1);
        is("count(8)", x.count(8), 0);
        finds("tear(2)", x.tear(2), NOTHING);
        finds("at(2, 2)", x.at(2, 2), NOTHING);
    }

    private static void copies() {
        fresh("6 copy");
        row(0, 1, 2, 3, 4, 5);
        row(1, 9, 9);
        is("copy(0, 3, 1, 0, 2)", x.copy(0, 3, 1, 0, 2), 1);
        rowIs("to another", 1, 4, 5);
        is("copy(0, 0, 0, 1, 4)", x.copy(0, 0, 0, 1, 4), 1);
        rowIs("behind itself", 0, 1, 1, 2, 3, 4);
        is("copy(0, 1, 0, 0, 4)", x.copy(0, 1, 0, 0, 4), 1);
        rowIs("ahead of itself", 0, 1, 2, 3, 4, 4);
        is("copy(0, 5, 1, 2, 0)", x.copy(0, 5, 1, 2, 0), 1);
        finds("copy(0, 6, 1, 0, 0)", x.copy(0, 6, 1, 0, 0), BEYOND);
        finds("copy(0, 0, 1, 3, 0)", x.copy(0, 0, 1, 3, 0), BEYOND);
        finds("copy(0, -1, 1, 0, 0)", x.copy(0, -1, 1, 0, 0), BEYOND);
        finds("copy(0, 0, 1, -1, 0)", x.copy(0, 0, 1, -1, 0), BEYOND);
        finds("copy(0, 0, 1, 0, 3)", x.copy(0, 0, 1, 0, 3), BEYOND);
        finds("copy(0, 4, 1, 0, 2)", x.copy(0, 4, 1, 0, 2), BEYOND);
        finds("copy(0, 5, 1, 0, 2147483647)", x.copy(0, 5, 1, 0, Integer.MAX_VALUE), BEYOND);
        finds("copy(0, 2147483647, 1, 0, 2)", x.copy(0, Integer.MAX_VALUE, 1, 0, 2), BEYOND);
        finds("copy(2, 0, 1, 0, -1)", x.copy(2, 0, 1, 0, -1), SIZE);
        finds("copy(2, 9, 1, 0, 1)", x.copy(2, 9, 1, 0, 1), NOTHING);
        finds("copy(0, 0, 2, 0, 0)", x.copy(0, 0, 2, 0, 0), NOTHING);
        is("copy(6, 0, 0, 0, -1)", x.copy(6, 0, 0, 0, -1), BAD);
        is("copy(0, 0, -1, 0, 1)", x.copy(0, 0, -1, 0, 1), BAD);
        rowIs("left by refusals", 1, 4, 5);
    }

    private static void means() {
        fresh("7 mean");
        row(0, 1, 2, 2);
        tells("mean(0)", x.mean(0), 1, 1);
        row(0, 5);
        tells("mean(0) of one", x.mean(0), 1, 5);
        row(0, -1, -2, -2);
        tells("mean(0) below 0, cut", x.mean(0), 1, -1);
        row(0, Integer.MAX_VALUE, Integer.MAX_VALUE, Integer.MAX_VALUE);
        tells("mean(0) of large ones", x.mean(0), 1, Integer.MAX_VALUE);
        row(0, Integer.MIN_VALUE, Integer.MIN_VALUE);
        tells("mean(0) of the least ones", x.mean(0), 1, Integer.MIN_VALUE);
        row(0);
        finds("mean(0) of none", x.mean(0), NOUGHT);
        finds("mean(1)", x.mean(1), NOTHING);
        is("mean(6)", x.mean(6), BAD);
        is("asked() stays", x.asked(), Integer.MIN_VALUE);
    }

    private static void texts() {
        fresh("8 text");
        is("text(3, 60)", x.text(3, 60), 60);
        is("text(3, 61)", x.text(3, 61), BAD);
        is("text(4, 1)", x.text(4, 1), BAD);
        is("text(-1, -1)", x.text(-1, -1), BAD);
        finds("text(3, -1)", x.text(3, -1), SIZE);
        is("a blank", x.put(3, 59, 65), 1032);
        is("text(3, 60) anew", x.text(3, 60), 60);
        is("a blank again", x.put(3, 59, 65), 1032);
        is("text(2, 0)", x.text(2, 0), 0);
        is("count(9)", x.count(9), 2);

        promise = "9 put";
        is("what it was", x.put(3, 59, 200), 1065);
        is("cut to a byte", x.put(3, 59, -129), 1000 - 56);
        is("cut to a byte from below", x.put(3, 59, 256), 1127);
        is("cut to 0", x.put(3, 59, -128), 1000);
        is("the least byte", x.put(3, 59, 127), 872);
        finds("put(3, 60, 1)", x.put(3, 60, 1), BEYOND);
        finds("put(3, -1, 1)", x.put(3, -1, 1), BEYOND);
        finds("put(2, 0, 1)", x.put(2, 0, 1), BEYOND);
        finds("put(1, 0, 1)", x.put(1, 0, 1), NOTHING);
        is("put(4, 0, 1)", x.put(4, 0, 1), BAD);
        is("asked() is not told", x.asked(), 0);
    }

    private static void fault(String s, int place) {
        write(1, s);
        is("'" + s + "'", x.fault(1), place);
        is("'" + s + "' as a house", x.house(1) >= 1 ? 1 : 0, place == NONE ? 1 : 0);
    }

    private static void faults() {
        fresh("10 fault");
        finds("fault(0)", x.fault(0), NOTHING);
        is("fault(4)", x.fault(4), BAD);
        is("fault(-1)", x.fault(-1), BAD);
        fault("", 0);
        fault("   ", 3);
        fault("a01s000", NONE);
        fault("   a9123456   s123  c234 k345u456 w567q678  ", NONE);
        fault("a", 1);
        fault("A01s000", 0);
        fault(" x", 1);
        fault("a 1", 1);
        fault("ax", 1);
        fault("a0", 2);
        fault("a0 1s000", 2);
        fault("a00s000", 2);
        fault("a0s000", 2);
        fault("a01", 3);
        fault("a01   ", 6);
        fault("a010s000", 3);
        fault("a01 2s000", 4);
        fault("a01234567", 8);
        fault("a01234560", 8);
        fault("a0123456 7", 9);
        fault("a01x000", 3);
        fault("a01a000", 3);
        fault("a01s", 4);
        fault("a01s ", 4);
        fault("a01s0", 5);
        fault("a01sx", 4);
        fault("a01s0 0", 5);
        fault("a01s00", 6);
        fault("a01s00x", 6);
        fault("a01s0000", 7);
        fault("a01s000s", 8);
        fault("a01s000c000", 8);
        fault("a01s000 c1x0", 10);
        fault("a01s000s100s200s300s400s500", NONE);
        fault("a01s000s100s200s300s400s500 ", NONE);
        fault("a01s000s100s200s300s400s500s600", 27);
        fault("a01s000s100s200s300s400s500 x", 28);
        fault("a01s000s100s200s300s400s0", 24);
        write(1, "a01s000");
        x.put(1, 0, 97 - 256);
        is("a sign by its byte", x.fault(1), NONE);
        x.put(1, 0, -97);
        is("a sign below 0", x.fault(1), 0);
        x.put(1, 0, 97);
        x.put(1, 6, 0);
        is("sign 0", x.fault(1), 6);
    }

    private static void houses() {
        fresh("11 house");
        finds("house(0)", x.house(0), NOTHING);
        is("house(4)", x.house(4), BAD);
        is("house(-1)", x.house(-1), BAD);
        write(0, "a312s000c111");
        is("house(0)", x.house(0), 2);
        is("scenes", x.count(1), 2);
        is("prompts", x.count(4), 3);
        x.change(0, 1);
        x.call(0);
        x.keep(1);
        int findings = x.findings(NOTHING);
        write(2, "a312s000c1");
        is("house(2) with a fault", x.house(2), STATE);
        is("no finding by it", x.findings(NOTHING), findings);
        is("deeds left", x.count(3), 2);
        is("kept house left", x.count(10), 1);
        is("house(0) anew", x.house(0), 2);
        is("no deeds", x.count(3), 0);
        is("scene 0", x.count(2), 0);
        is("prompts", x.count(4), 3);
        is("shame", x.count(5), 0);
        is("carried", x.count(6), 0);
        is("kept houses go", x.count(10), 0);
        is("applause()", x.applause(), 1000);
        tells("the seat as in the text", x.sitter(0, 1), 1, 0);
        tells("nobody called", x.sitter(0, 6), 1, 0);
    }
}
