/** Promises 15 to 20 at their boundaries: who is carried, how many deeds there can be, what is undone and kept. */
public final class DeedEdgesTest extends Bench {
    /** Lacks 0, 1, 2, 3 in any scene; 2 prompts; then those who can't be called. */
    private static final String LACKING = "a233333 s030 s220 s410 s600 k800 w900";

    public static void main(String[] args) {
        begin("DeedEdgesTest");
        atFirst();
        lacking();
        prompts();
        promptsAtTheirEdges();
        nextScene();
        callsRefused();
        callsAmongFortyDeeds();
        cuts();
        cutsRefused();
        changes();
        changesRefused();
        undone();
        undoneOfForty();
        kept();
        keptRefused();
        goneOnFrom();
        goneOnFromOthers();
        end();
    }

    private static void stands(String what, int prompts, int shame, int carried, int applause) {
        is(what + ": PROMPTS", x.count(4), prompts);
        is(what + ": SHAME", x.count(5), shame);
        is(what + ": CARRIED", x.count(6), carried);
        is(what + ": APPLAUSE", x.applause(), 1000 + applause);
    }

    private static void atFirst() {
        edge(15, "SCENE 0 is at first, nobody was called, APPLAUSE, SHAME 0.");
        house("a91s090");
        is("SCENE", x.count(2), 0);
        tells("whether one was called", x.sitter(0, 6), 1, 0);
        stands("at first", 9, 0, 0, 0);
    }

    private static void lacking() {
        edge(15, "what he SAYS less than its LINES is LACKING (0 at least)");
        house("a933333 s040 s230 s420 s600");
        tells("says one more", x.call(0), 1, 0);
        house("a933333 s040 s230 s420 s600");
        tells("says as much", x.call(1), 1, 0);
        house("a933333 s040 s230 s420 s600");
        tells("says one less", x.call(2), 1, 1);
        house("a933333 s040 s230 s420 s600");
        tells("says nothing", x.call(3), 1, 3);
        house("a91 c090");
        tells("says eleven of one", x.call(0), 1, 0);
        house("a99 s000");
        tells("says nothing of nine", x.call(0), 1, 9);
    }

    private static void prompts() {
        edge(15, "If that is no more than PROMPTS, so many of them are gone, SHAME is as much more,"
                + " APPLAUSE 2 more (if nothing is LACKING) or 1 more: it is CARRIED; else APPLAUSE is 1 less.");
        house(LACKING);
        tells("lacking none", x.call(0), 1, 0);
        stands("lacking none", 2, 0, 1, 2);
        house(LACKING);
        tells("lacking one fewer than PROMPTS", x.call(1), 1, 1);
        stands("lacking one fewer than PROMPTS", 1, 1, 1, 1);
        house(LACKING);
        tells("lacking as many as PROMPTS", x.call(2), 1, 2);
        stands("lacking as many as PROMPTS", 0, 2, 1, 1);
        house(LACKING);
        tells("lacking one more than PROMPTS", x.call(3), 0, 3);
        stands("lacking one more than PROMPTS", 2, 0, 0, -1);
    }

    private static void promptsAtTheirEdges() {
        edge(15, "If that is no more than PROMPTS");
        house("a011 s000 s210");
        tells("one lacking, no PROMPTS", x.call(0), 0, 1);
        stands("one lacking, no PROMPTS", 0, 0, 0, -1);
        house("a011 s010 s210");
        tells("none lacking, no PROMPTS", x.call(0), 1, 0);
        stands("none lacking, no PROMPTS", 0, 0, 1, 2);
        house("a992 s000 s200");
        tells("all of nine", x.call(0), 1, 9);
        stands("all of nine", 0, 9, 1, 1);
        tells("none left", x.call(1), 0, 2);
        stands("none left", 0, 9, 1, 0);
        house("a89 s000");
        tells("nine lacking, eight PROMPTS", x.call(0), 0, 9);
        stands("nine lacking, eight PROMPTS", 8, 0, 0, -1);
        house("a222 s010 s210");
        tells("by fewer PROMPTS left", x.call(0), 1, 1);
        tells("by no FRIGHT, one PROMPT left", x.call(1), 1, 1);
        stands("both prompted", 0, 2, 2, 2);
    }

    private static void nextScene() {
        edge(15, "Then the next SCENE is due.");
        house("a019 s010 s210");
        x.call(0);
        is("behind one that is CARRIED", x.count(2), 1);
        tells("by its LINES", x.call(1), 0, 8);
        is("behind one that isn't", x.count(2), 2);
        is("all are over", x.count(2), x.count(1));
    }

    private static void callsRefused() {
        edge(15, "BAD; STATE: all SCENES are over, or he CAN not; FULL: 40 DEEDS.");
        refuses("call(0) of nobody", BAD, () -> x.call(0));
        house(LACKING);
        refuses("call(-1)", BAD, () -> x.call(-1));
        refuses("call(6) of six", BAD, () -> x.call(6));
        refuses("call(MIN)", BAD, () -> x.call(MIN));
        refuses("call(MAX)", BAD, () -> x.call(MAX));
        refuses("a CRITIC in SEAT 8", STATE, () -> x.call(4));
        refuses("a COWARD in SEAT 9", STATE, () -> x.call(5));
        is("call(0)", x.call(0), 1);
        refuses("called twice", STATE, () -> x.call(0));
        for (int k = 0; k < 4; k++) {
            x.cut();
        }
        refuses("all SCENES are over", STATE, () -> x.call(1));
        refuses("BAD comes ahead of STATE", BAD, () -> x.call(6));
        x.undo(4);
        is("in the last SCENE", x.call(1), 1);
    }

    private static void callsAmongFortyDeeds() {
        edge(15, "(FULL last.)");
        house(LACKING);
        changes(39);
        is("the 40th DEED", x.call(0), 1);
        refuses("a 41st DEED", FULL, () -> x.call(1));
        refuses("BAD comes ahead of FULL", BAD, () -> x.call(6));
        refuses("STATE comes ahead of FULL: called", STATE, () -> x.call(0));
        refuses("STATE comes ahead of FULL: a CRITIC", STATE, () -> x.call(4));
        x.undo(0);
        for (int k = 0; k < 5; k++) {
            x.cut();
        }
        changes(35);
        refuses("STATE comes ahead of FULL: all SCENES are over", STATE, () -> x.call(1));
    }

    private static void cuts() {
        edge(16, "A SCENE that is cut changes nothing else.");
        house("a211 s000 k300");
        is("cut()", x.cut(), 1);
        stands("cut", 2, 0, 0, 0);
        is("all can be called", x.can(), 3);
        tells("nobody was called", x.sitter(0, 6), 1, 0);
        is("one DEED", x.count(3), 1);
        is("the last SCENE is cut", x.cut(), 2);
        is("all are over", x.count(2), 2);
        x.undo(0);
        x.call(0);
        is("a SCENE behind a call", x.cut(), 2);
        stands("cut behind a call", 1, 1, 1, 1);
    }

    private static void cutsRefused() {
        edge(16, "STATE: all are over, or there are none; FULL. (FULL last.)");
        refuses("there are none", STATE, () -> x.cut());
        house("a01s000s200");
        is("the only SCENE", x.cut(), 1);
        refuses("all are over", STATE, () -> x.cut());
        changes(39);
        refuses("STATE comes ahead of FULL", STATE, () -> x.cut());
        x.undo(0);
        changes(39);
        is("the 40th DEED", x.cut(), 1);
        x.undo(39);
        changes(1);
        refuses("a 41st DEED", FULL, () -> x.cut());
    }

    private static void changes() {
        edge(17, "Two SITTERS change SEATS: how many CAN be called then.");
        house("a0111111 k000 w800 s100 s300 s500 s700");
        is("the COWARD to SEAT 0", x.change(0, 1), 5);
        tells("the SEAT of one", x.sitter(0, 1), 1, 8);
        tells("the SEAT of the other one", x.sitter(1, 1), 1, 0);
        is("all but the CRITIC", x.can(), 62);
        is("the CRITIC to SEAT 1", x.change(0, 2), 6);
        is("and back, the greater number first", x.change(2, 0), 5);
        is("the first one and the last one", x.change(0, 5), 6);
        tells("the last one's SEAT", x.sitter(5, 1), 1, 8);
        is("DEEDS", x.count(3), 4);
        is("no SCENE is over by it", x.count(2), 0);
        house("a01 k000 k200");
        is("nobody can then, either", x.change(0, 1), 0);
        house("a01 s000 k200");
        x.call(0);
        is("one who was called, behind all SCENES", x.change(0, 1), 0);
        tells("his SEAT", x.sitter(0, 1), 1, 2);
        is("asked() is not told", x.asked(), 2);
    }

    private static void changesRefused() {
        edge(17, "BAD: also the same; FULL.");
        refuses("nobody is there", BAD, () -> x.change(0, 1));
        house("a01s000");
        refuses("the only one and himself", BAD, () -> x.change(0, 0));
        refuses("the only one and another one", BAD, () -> x.change(0, 1));
        house("a01s000k200");
        for (int i : new int[] {-1, 2, MIN, MAX}) {
            refuses("change(" + i + ", 0)", BAD, () -> x.change(i, 0));
            refuses("change(1, " + i + ")", BAD, () -> x.change(1, i));
            refuses("change(" + i + ", " + i + ")", BAD, () -> x.change(i, i));
        }
        refuses("the first one and himself", BAD, () -> x.change(0, 0));
        refuses("the last one and himself", BAD, () -> x.change(1, 1));
        changes(39);
        is("the 40th DEED", x.change(1, 0), 1);
        is("40 DEEDS", x.count(3), 40);
        refuses("a 41st DEED", FULL, () -> x.change(0, 1));
        refuses("BAD comes ahead of FULL", BAD, () -> x.change(0, 0));
        refuses("BAD comes ahead of FULL, too", BAD, () -> x.change(0, 2));
        tells("the SEAT as after an even number", x.sitter(0, 1), 1, 0);
    }

    private static void undone() {
        edge(18, "DEEDS from number n on (n 0 to how many there are: then 0) are undone: how many. BAD.");
        is("none of none, without a HOUSE", x.undo(0), 0);
        refuses("undo(1) without a HOUSE", BAD, () -> x.undo(1));
        refuses("undo(-1) without a HOUSE", BAD, () -> x.undo(-1));
        house(LACKING);
        is("none of none", x.undo(0), 0);
        refuses("undo(1) of none", BAD, () -> x.undo(1));
        long first = x.digest();
        x.call(1);
        x.change(1, 4);
        long second = x.digest();
        x.cut();
        refuses("undo(4) of three", BAD, () -> x.undo(4));
        refuses("undo(-1)", BAD, () -> x.undo(-1));
        refuses("undo(MIN)", BAD, () -> x.undo(MIN));
        refuses("undo(MAX)", BAD, () -> x.undo(MAX));
        long third = x.digest();
        is("undo(3) of three", x.undo(3), 0);
        is("as it is", x.digest(), third);
        is("undo(2) of three", x.undo(2), 1);
        is("without the last one", x.digest(), second);
        refuses("a DEED that is undone", BAD, () -> x.undo(3));
        is("undo(0) of two", x.undo(0), 2);
        is("without any", x.digest(), first);
        is("asked() is not told", x.asked(), 1);
    }

    private static void undoneOfForty() {
        edge(18, "(n 0 to how many there are: then 0)");
        house(LACKING);
        changes(40);
        refuses("undo(41) of 40", BAD, () -> x.undo(41));
        is("undo(40) of 40", x.undo(40), 0);
        is("undo(39) of 40", x.undo(39), 1);
        tells("the SEAT as after an odd number", x.sitter(0, 1), 1, 2);
        is("there is room for one", x.call(0), 1);
        refuses("and for no more", FULL, () -> x.call(1));
        is("undo(0) of 40", x.undo(0), 40);
        is("no DEEDS", x.count(3), 0);
        tells("the SEAT at first", x.sitter(0, 1), 1, 0);
        stands("at first", 2, 0, 0, 0);

        edge(18, "are undone: how many");
        house(LACKING);
        // SITTER 1 comes ahead of 2, for whom one PROMPT is too few then; 3 is never CARRIED; nobody is left at last.
        is("DEEDS by lots()", x.lots(1), 2);
        is("one for each SCENE, the cut one, too", x.count(3), 5);
        is("each one is undone alone", x.undo(1), 4);
        is("one SCENE is over", x.count(2), 1);
        is("all of them", x.undo(0), 1);
        is("no SCENE is over", x.count(2), 0);
    }

    private static void kept() {
        edge(19, "The HOUSE (as it is, DEEDS) is kept in a place (0 .. 2): how many DEEDS.");
        house(LACKING);
        is("no DEEDS", x.keep(0), 0);
        is("one is kept", x.count(10), 1);
        changes(40);
        is("40 DEEDS", x.keep(2), 40);
        is("two are kept", x.count(10), 2);
        x.undo(3);
        is("three DEEDS over the first ones", x.keep(0), 3);
        is("two are kept still", x.count(10), 2);
        is("the middle place", x.keep(1), 3);
        is("three are kept", x.count(10), 3);
        is("keeping is no DEED", x.count(3), 3);
        is("on(0)", x.on(0), 3);
        is("on(2)", x.on(2), 40);
        is("asked() is not told", x.asked(), 0);
    }

    private static void keptRefused() {
        edge(19, "BAD; STATE: no SITTERS.");
        refuses("keep(0)", STATE, () -> x.keep(0));
        refuses("keep(2)", STATE, () -> x.keep(2));
        refuses("BAD comes ahead of STATE below", BAD, () -> x.keep(-1));
        refuses("BAD comes ahead of STATE above", BAD, () -> x.keep(3));
        write(0, "a01");
        refuses("a HOUSE that has a FAULT", STATE, () -> x.house(0));
        refuses("keep(0) then", STATE, () -> x.keep(0));
        house("a01s000");
        is("keep(0) with one SITTER", x.keep(0), 0);
        for (int k : new int[] {-1, 3, MIN, MAX}) {
            refuses("keep(" + k + ")", BAD, () -> x.keep(k));
        }
    }

    private static void goneOnFrom() {
        edge(20, "The HOUSE is as it was kept: how many DEEDS.");
        house(LACKING);
        long first = x.digest();
        x.keep(0);
        x.change(0, 4);
        x.call(2);
        x.call(3);
        x.cut();
        x.keep(2);
        long kept = x.digest();
        is("on(0)", x.on(0), 0);
        stands("on(0)", 2, 0, 0, 0);
        tells("the SEAT by on(0)", x.sitter(0, 1), 1, 0);
        is("on(2)", x.on(2), 4);
        is("as it was", x.digest(), kept);
        is("its DEEDS can be undone", x.undo(2), 2);
        stands("undone", 0, 2, 1, 1);
        is("and be gone on from", x.cut(), 2);
        is("on(2) is as it was kept, again", x.on(2), 4);
        is("as it was, again", x.digest(), kept);
        is("undo(0)", x.undo(0), 4);
        is("kept HOUSES stay", x.count(10), 2);
        due.holds(promise + ": no kept HOUSE counts at first", first != x.digest());
        x.undo(0);
        changes(40);
        x.keep(1);
        x.undo(0);
        is("40 DEEDS", x.on(1), 40);
        refuses("there is no room", FULL, () -> x.call(0));
    }

    private static void goneOnFromOthers() {
        edge(20, "BAD; NOTHING.");
        for (int k = 0; k < 3; k++) {
            int place = k;
            finds("on(" + k + ") without a HOUSE", NOTHING, () -> x.on(place));
        }
        house("a01s000s200");
        x.keep(1);
        finds("on(0)", NOTHING, () -> x.on(0));
        finds("on(2)", NOTHING, () -> x.on(2));
        for (int k : new int[] {-1, 3, MIN, MAX}) {
            refuses("on(" + k + ")", BAD, () -> x.on(k));
        }
        write(1, "a01s00");
        refuses("a HOUSE by a FAULT", STATE, () -> x.house(1));
        is("leaves the kept one", x.on(1), 0);
        x.house(0);
        finds("a HOUSE anew lets it go", NOTHING, () -> x.on(1));
    }
}
