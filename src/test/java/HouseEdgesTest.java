/** Promises 10 and 11 at their boundaries: the small language, sign by sign, and houses by it. */
public final class HouseEdgesTest extends Bench {
    private static final String SIX = "a01s000s100s200s300s400s500";

    public static void main(String[] args) {
        begin("HouseEdgesTest");
        refusals();
        blanks();
        firstItem();
        scenes();
        sitters();
        letters();
        seats();
        figures();
        ends();
        signsOfBytes();
        houses();
        housesRefused();
        housesAnew();
        end();
    }

    /** The house that a text without a fault tells; a text with one tells none. */
    private static void fault(String s, int place) {
        renew();
        write(1, s);
        is("'" + s + "'", x.fault(1), place);
        is("'" + s + "' again", x.fault(1), place);
        if (place == NONE) {
            due.holds(promise + ": '" + s + "' is a house", x.house(1) > 0);
        } else {
            refuses("'" + s + "' as a house", STATE, () -> x.house(1));
        }
    }

    private static void sitterIs(int i, int kind, int seat, int memory, int fright) {
        tells("KIND of " + i, x.sitter(i, 0), 1, kind);
        tells("SEAT of " + i, x.sitter(i, 1), 1, seat);
        tells("MEMORY of " + i, x.sitter(i, 2), 1, memory);
        tells("FRIGHT of " + i, x.sitter(i, 3), 1, fright);
    }

    private static void refusals() {
        edge(10, "A FAULT of a TEXT; NONE: there is none. BAD; NOTHING.");
        write(0, "a01s000");
        write(3, "a01s000");
        is("fault(0)", x.fault(0), NONE);
        is("fault(3)", x.fault(3), NONE);
        refuses("fault(-1)", BAD, () -> x.fault(-1));
        refuses("fault(4)", BAD, () -> x.fault(4));
        refuses("fault(MIN)", BAD, () -> x.fault(MIN));
        refuses("fault(MAX)", BAD, () -> x.fault(MAX));
        finds("a missing text", NOTHING, () -> x.fault(1));
        long before = x.digest();
        is("looked at again", x.fault(0), NONE);
        is("no house by it", x.digest(), before);
        is("nobody by it", x.count(0), 0);
    }

    private static void blanks() {
        edge(10, "blanks (32) ahead, between, behind as many as wanted, none within items.");
        fault("a01s000", NONE);
        fault(" a01 s000 ", NONE);
        fault(" ".repeat(53) + "a01s000", NONE);
        fault("a01" + " ".repeat(53) + "s000", NONE);
        fault("a01s000" + " ".repeat(53), NONE);
        fault("a01s000" + " ".repeat(49) + "c100", NONE);
        fault("a 01s000", 1);
        fault("a0 1s000", 2);
        fault("a01 1s000", 4);
        fault("a01s 000", 4);
        fault("a01s0 00", 5);
        fault("a01s00 0", 6);
        fault("\ta01s000", 0);
        fault("a01\ns000", 3);
        fault("a01s000!", 7);
        fault((char) 31 + "a01s000", 0);
    }

    private static void firstItem() {
        edge(10, "The first item is a (97), PROMPTS (0 .. 9, one figure)");
        fault("`01s000", 0);
        fault("b01s000", 0);
        fault("A01s000", 0);
        fault("s000", 0);
        fault("01s000", 0);
        fault("a01s000", NONE);
        is("0 PROMPTS", x.count(4), 0);
        fault("a91s000", NONE);
        is("9 PROMPTS", x.count(4), 9);
        fault("a/1s000", 1);
        fault("a:1s000", 1);
        fault("aa1s000", 1);
        fault("as000", 1);
        fault("a01a01s000", 3);
        fault("a01s000a01", 7);
    }

    private static void scenes() {
        edge(10, "then LINES of SCENES 0, 1, .. (1 to 6 figures 1 .. 9, as many as stand together)");
        fault("a0s000", 2);
        fault("a00s000", 2);
        fault("a0/s000", 2);
        fault("a0:s000", 2);
        fault("a01s000", NONE);
        is("1 SCENE", x.count(1), 1);
        is("1 LINE", x.lines(0), 1);
        fault("a09s000", NONE);
        is("9 LINES", x.lines(0), 9);
        fault("a0918273s000", NONE);
        is("6 SCENES", x.count(1), 6);
        is("LINES of the last one", x.lines(5), 3);
        is("LINES of the one ahead", x.lines(4), 7);
        fault("a010s000", 3);
        fault("a01/s000", 3);
        fault("a01:s000", 3);
        fault("a0111110s000", 7);
        fault("a011111 1s000", 8);
        fault("a0123s000", NONE);
        write(1, "a0s000");
        is("no SCENE behind a TEXT that had some", x.fault(1), 2);
        write(1, "a01");
        is("no SITTER behind a TEXT that had one", x.fault(1), 3);
    }

    private static void sitters() {
        edge(10, "Then SITTERS (1 to 6; 0, 1, .. as they come)");
        fault("a01", 3);
        fault("a01s987", NONE);
        is("1 SITTER", x.count(0), 1);
        sitterIs(0, 0, 9, 8, 7);
        fault("a01 s012c123k234 u345 w456q567", NONE);
        is("6 SITTERS", x.count(0), 6);
        for (int i = 0; i < 6; i++) {
            sitterIs(i, i, i, i + 1, i + 2);
        }

        edge(10, "a seventh SCENE, a SEAT that is taken, a seventh SITTER: its place");
        fault("a0111111s000", NONE);
        fault("a01111111s000", 8);
        fault("a01111110s000", 8);
        fault("a0111111", 8);
        fault("a01s000s000", 8);
        fault("a01s000c0", 8);
        fault("a01s000 c100 k000", 14);
        fault("a01s900c800k700u600w500q9", 24);
        fault(SIX, NONE);
        fault(SIX + "s600", 27);
        fault(SIX + " s600", 28);
        fault(SIX + "s", 27);
        fault(SIX + "s000", 27);
        fault(SIX + "x", 27);
    }

    private static void letters() {
        edge(10, "KINDS of SITTERS and letters");
        String letters = "sckuwq";
        for (char sign = 33; sign < 127; sign++) {
            int kind = letters.indexOf(sign);
            // A figure would be one more SCENE, but for 0.
            boolean scene = sign >= '1' && sign <= '9';
            String s = "a01" + sign + "000";
            fault(s, kind >= 0 ? NONE : scene ? 4 : 3);
            if (kind >= 0) {
                tells("KIND of " + sign, x.sitter(0, 0), 1, kind);
            }
        }
    }

    private static void seats() {
        edge(10, "the SEAT (0 .. 9; none in which one sits)");
        for (int seat = 0; seat <= 9; seat++) {
            fault("a01s" + seat + "00", NONE);
            tells("SEAT " + seat, x.sitter(0, 1), 1, seat);
            fault("a01s" + seat + "00c" + seat + "00", 8);
            fault("a01s" + seat + "00c" + (seat + 1) % 10 + "00", NONE);
            fault("a01s" + seat + "00c" + (seat + 9) % 10 + "00", NONE);
        }
        fault("a01s/00", 4);
        fault("a01s:00", 4);
        fault("a01ss00", 4);

        write(0, "a01s300c3");
        is("taken in one TEXT", x.fault(0), 8);
        write(0, "a01s300");
        is("free again in the next one", x.fault(0), NONE);
    }

    private static void figures() {
        edge(10, "MEMORY (0 .. 9), FRIGHT (0 .. 9), one figure each");
        fault("a01s000", NONE);
        sitterIs(0, 0, 0, 0, 0);
        fault("a01s099", NONE);
        sitterIs(0, 0, 0, 9, 9);
        fault("a01s0/0", 5);
        fault("a01s0:0", 5);
        fault("a01s00/", 6);
        fault("a01s00:", 6);
        fault("a01s0s0", 5);
        fault("a01s00s", 6);
        fault("a01s0000", 7);
        fault("a01s000 0", 8);
        fault("a01s000c0000", 8);
        fault("a01s000c10000", 11);
    }

    private static void ends() {
        edge(10, "the TEXT's size, if its end comes too early, or there is no SITTER, or there are blanks alone");
        fault("", 0);
        fault(" ", 1);
        fault(" ".repeat(60), 60);
        String house = "a011s000c100";
        for (int size = 0; size < house.length(); size++) {
            fault(house.substring(0, size), size == 8 ? NONE : size);
        }
        fault("a01 ", 4);
        fault("a01" + " ".repeat(57), 60);
        fault("a01s ", 4);
        fault("a01s000 c", 9);
        fault("a01s000 c1", 10);
        fault("a01s000 c10", 11);
        fault(" ".repeat(59) + "a", 60);
        fault(" ".repeat(54) + "a01s00", 60);
        fault(" ".repeat(53) + "a01s000", NONE);
        fault(SIX + " ".repeat(33), NONE);
        fault(" ".repeat(27) + "a0123456" + "s000c100k200u300w400q500" + " ", NONE);
        fault(" ".repeat(59) + "x", 59);
    }

    private static void signsOfBytes() {
        edge(10, "KINDS of SITTERS and letters: 0 SITTER (s, 115), 1 CLERK (c, 99; a SITTER), 2 CRITIC (k, 107; a SITTER),"
                + " 3 UNCLE (u, 117; a CLERK), 4 COWARD (w, 119; a SITTER), 5 CLAQUE (q, 113; an UNCLE).");
        int[] numbers = {115, 99, 107, 117, 119, 113};
        write(0, "a01s000");
        for (int kind = 0; kind < 6; kind++) {
            x.put(0, 3, numbers[kind]);
            is("house by " + numbers[kind], x.house(0), 1);
            tells("KIND by " + numbers[kind], x.sitter(0, 0), 1, kind);
            x.put(0, 3, numbers[kind] - 256);
            is("by " + (numbers[kind] - 256) + ", cut to a byte", x.fault(0), NONE);
            x.put(0, 3, numbers[kind] - 128);
            is("by " + (numbers[kind] - 128), x.fault(0), 3);
            x.put(0, 3, -numbers[kind]);
            is("by " + -numbers[kind], x.fault(0), 3);
        }
        write(0, "a01s000");
        for (int place = 0; place < 7; place++) {
            for (int v : new int[] {-128, -1, 0, 127}) {
                int old = x.put(0, place, v) - 1000;
                is("byte " + v + " at " + place, x.fault(0), place);
                x.put(0, place, old);
            }
        }
        is("as it was", x.fault(0), NONE);
    }

    private static void houses() {
        edge(11, "how many SITTERS");
        write(0, "a01s000");
        write(3, SIX);
        is("1 SITTER", x.house(0), 1);
        is("6 SITTERS", x.house(3), 6);
        is("1 SITTER anew", x.house(0), 1);
        refuses("a second one is gone", BAD, () -> x.sitter(1, 0));
        write(1, "a0123456s000");
        x.house(1);
        x.house(0);
        refuses("a second SCENE is gone", BAD, () -> x.lines(1));
        is("asked() is not told", x.asked(), 0);
    }

    private static void housesRefused() {
        edge(11, "BAD; NOTHING; STATE: a FAULT. (STATE behind NOTHING.)");
        house("a312s000c111");
        x.change(0, 1);
        x.call(0);
        x.keep(1);
        x.text(1, 0);
        refuses("house(-1)", BAD, () -> x.house(-1));
        refuses("house(4)", BAD, () -> x.house(4));
        refuses("house(MIN)", BAD, () -> x.house(MIN));
        refuses("house(MAX)", BAD, () -> x.house(MAX));
        finds("a missing text", NOTHING, () -> x.house(2));
        refuses("a text without bytes", STATE, () -> x.house(1));
        write(1, "a9123456u900u800u700u600u500u4");
        refuses("a text whose last SITTER has no end", STATE, () -> x.house(1));
        is("on(1) stands as it was kept", x.on(1), 2);
        is("undo(0)", x.undo(0), 2);
        tells("the first house's SEAT", x.sitter(0, 1), 1, 0);
        is("the first house's LINES", x.lines(1), 2);
        is("the first house's PROMPTS", x.count(4), 3);
    }

    private static void housesAnew() {
        edge(11, "A HOUSE by a TEXT (anew: SCENE 0, nobody called, no DEEDS; kept HOUSES go)");
        house("a915s090c190");
        row(2, 6);
        is("carried", x.call(0), 1);
        is("carried, too", x.call(1), 1);
        x.change(0, 1);
        for (int k = 0; k < 3; k++) {
            is("keep(" + k + ")", x.keep(k), 3);
        }
        is("anew", x.house(0), 2);
        is("SCENE", x.count(2), 0);
        is("DEEDS", x.count(3), 0);
        is("PROMPTS", x.count(4), 9);
        is("SHAME", x.count(5), 0);
        is("CARRIED", x.count(6), 0);
        is("kept HOUSES", x.count(10), 0);
        is("APPLAUSE", x.applause(), 1000);
        is("all can be called", x.can(), 3);
        for (int k = 0; k < 3; k++) {
            int kept = k;
            finds("on(" + k + ")", NOTHING, () -> x.on(kept));
        }
        tells("the SEAT of the TEXT", x.sitter(0, 1), 1, 0);
        is("nothing to undo", x.undo(0), 0);
        refuses("a DEED of the house before", BAD, () -> x.undo(1));
        rowIs("ROWS stay", 2, 6);
        is("TEXTS stay", x.fault(0), NONE);
        x.put(0, 1, '1');
        is("a TEXT changed later changes no HOUSE", x.count(4), 9);
    }
}
