/** Promises 12 to 21 by hand: sitters, what they tell, deeds, kept houses, who can be called. */
public final class SittersAndDeedsTest extends Bench {
    /** Says 3, 7 (a clerk), can't (a critic in seat 2), can't (a coward in seat 7), 5; lines 6, 4, 1; 2 prompts. */
    private static final String FIVE = "a2641 s130 c050 k255 w709 s350";

    public static void main(String[] args) {
        begin("SittersAndDeedsTest");
        sitters();
        fearsBelowNoApplause();
        marks();
        linesOfScenes();
        callsCarried();
        callsNotCarried();
        callsRefused();
        cuts();
        seatChanges();
        undone();
        keptHouses();
        whoCan();
        end();
    }

    private static void sitterIs(int i, int... whats) {
        for (int what = 0; what < whats.length; what++) {
            tells("sitter(" + i + ", " + what + ")", x.sitter(i, what), 1, whats[what]);
        }
    }

    private static void sitters() {
        fresh("12 sitter");
        is("sitter(0, 0) of nobody", x.sitter(0, 0), BAD);
        house("a93 s059 k268 u489 w790 q199 q397");
        sitterIs(0, 0, 0, 5, 9, 9, 0, 0, 1);
        sitterIs(1, 2, 2, 6, 8, 8, 0, 0, 0);
        sitterIs(2, 3, 4, 8, 9, 4, 6, 0, 1);
        sitterIs(3, 4, 7, 9, 0, 0, 9, 0, 0);
        sitterIs(4, 5, 1, 9, 9, 4, 8, 0, 1);
        sitterIs(5, 5, 3, 9, 7, 3, 9, 0, 1);
        is("call(4)", x.call(4), 1);
        sitterIs(0, 0, 0, 5, 9, 7, 0, 0, 1);
        sitterIs(2, 3, 4, 8, 9, 3, 7, 0, 1);
        sitterIs(4, 5, 1, 9, 9, 3, 9, 1, 0);
        sitterIs(5, 5, 3, 9, 7, 2, 9, 0, 1);
        is("sitter(6, 0)", x.sitter(6, 0), BAD);
        is("sitter(-1, 0)", x.sitter(-1, 0), BAD);
        is("sitter(0, 8)", x.sitter(0, 8), BAD);
        is("sitter(0, -1)", x.sitter(0, -1), BAD);
        is("asked() stays", x.asked(), 1);
    }

    private static void fearsBelowNoApplause() {
        fresh("12 sitter, applause below 0");
        house("a099 s009 s199 c290 w605 k710");
        is("call(0)", x.call(0), 0);
        is("call(4)", x.call(4), 0);
        is("applause()", x.applause(), 998);
        sitterIs(1, 0, 1, 9, 9, 11, 0);
        sitterIs(2, 1, 2, 9, 0, 2, 9);
        sitterIs(3, 4, 6, 0, 5, 7, 0, 0, 1);
    }

    private static void marks() {
        fresh("13 mark");
        is("mark(0, 1) of nobody", x.mark(0, 1), BAD);
        house("a05937 c262 k345 u087 w134 q599 q744");
        is("a clerk", x.mark(0, 1), 2);
        is("a critic", x.mark(1, 2), 2);
        is("an uncle as a clerk", x.mark(2, 1), 3);
        is("an uncle", x.mark(2, 3), 4);
        is("a coward", x.mark(3, 4), 6);
        is("a claque as a clerk", x.mark(4, 1), 3);
        is("a claque as an uncle", x.mark(4, 3), 5);
        is("a claque", x.mark(4, 5), 1);
        is("the other claque as a clerk", x.mark(5, 1), 2);
        is("the other claque as an uncle", x.mark(5, 3), 2);
        int[][] unlike = {{0, 2}, {0, 3}, {0, 4}, {0, 5}, {1, 1}, {1, 4}, {2, 2}, {2, 5}, {3, 1}, {3, 2}, {4, 2}, {4, 4}};
        for (int[] pair : unlike) {
            finds("mark(" + pair[0] + ", " + pair[1] + ")", x.mark(pair[0], pair[1]), UNLIKE);
        }
        is("findings(UNLIKE)", x.findings(UNLIKE), unlike.length);
        int[][] bad = {{0, 0}, {0, 6}, {0, -1}, {6, 1}, {-1, 1}};
        for (int[] pair : bad) {
            is("mark(" + pair[0] + ", " + pair[1] + ")", x.mark(pair[0], pair[1]), BAD);
        }
        is("call(5)", x.call(5), 1);
        is("a claque, the other one called", x.mark(4, 5), 0);
        is("the called one himself", x.mark(5, 5), 1);
        is("a claque as a clerk, a scene later", x.mark(4, 1), 2);
        is("a claque as an uncle, by applause", x.mark(4, 3), 4);
        is("an uncle, by applause", x.mark(2, 3), 3);
        x.change(3, 5);
        is("a coward in seat 7", x.mark(3, 4), 0);
        x.change(3, 4);
        is("a coward in seat 5", x.mark(3, 4), 2);
        x.change(1, 0);
        is("a critic in an even seat himself", x.mark(1, 2), 1);
    }

    private static void linesOfScenes() {
        fresh("14 lines");
        is("lines(0) of no scene", x.lines(0), BAD);
        house(FIVE);
        is("lines(0)", x.lines(0), 6);
        is("lines(1)", x.lines(1), 4);
        is("lines(2)", x.lines(2), 1);
        is("lines(3)", x.lines(3), BAD);
        is("lines(-1)", x.lines(-1), BAD);
        x.cut();
        is("lines(0) when it is over", x.lines(0), 6);
    }

    private static void stands(int scene, int prompts, int shame, int carried, int applause) {
        is("scene", x.count(2), scene);
        is("prompts", x.count(4), prompts);
        is("shame", x.count(5), shame);
        is("carried", x.count(6), carried);
        is("applause", x.applause(), applause);
    }

    private static void callsCarried() {
        fresh("15 call, carried");
        house(FIVE);
        tells("with a prompt", x.call(4), 1, 1);
        stands(1, 1, 1, 1, 1001);
        tells("with the last prompt", x.call(0), 1, 1);
        stands(2, 0, 2, 2, 1002);
        tells("with none", x.call(1), 1, 0);
        stands(3, 0, 2, 3, 1004);
        is("deeds", x.count(3), 3);
        is("call(2) behind all", x.call(2), STATE);
        is("call(5) behind all", x.call(5), BAD);
    }

    private static void callsNotCarried() {
        fresh("15 call, not carried");
        house(FIVE);
        tells("too much lacking", x.call(0), 0, 3);
        stands(1, 2, 0, 0, 999);
        is("called already", x.call(0), STATE);
        tells("afraid by shame", x.call(1), 1, 0);
        stands(2, 2, 0, 1, 1001);
    }

    private static void callsRefused() {
        fresh("15 call, refused");
        is("call(0) of nobody", x.call(0), BAD);
        house(FIVE);
        is("call(5)", x.call(5), BAD);
        is("call(-1)", x.call(-1), BAD);
        is("a critic in an even seat", x.call(2), STATE);
        is("a coward by the exit", x.call(3), STATE);
        changes(40);
        is("40 deeds", x.call(0), FULL);
        is("40 deeds, one who can't", x.call(2), STATE);
        is("40 deeds, nobody", x.call(5), BAD);
        is("40 deeds left", x.count(3), 40);
        is("asked() of none", x.asked(), 0);
        is("undo(39)", x.undo(39), 1);
        is("one deed more", x.call(4), 1);
        is("40 deeds again", x.call(0), FULL);
    }

    private static void cuts() {
        fresh("16 cut");
        is("cut() of no scene", x.cut(), STATE);
        house("a212s000s100");
        is("cut()", x.cut(), 1);
        stands(1, 2, 0, 0, 1000);
        is("nobody called", x.can(), 3);
        is("deeds", x.count(3), 1);
        is("cut() again", x.cut(), 2);
        is("cut() behind all", x.cut(), STATE);
        changes(38);
        is("cut() behind all with 40 deeds", x.cut(), STATE);
        x.undo(0);
        changes(40);
        is("cut() with 40 deeds", x.cut(), FULL);
        is("scene left", x.count(2), 0);
    }

    private static void seatChanges() {
        fresh("17 change");
        is("change(0, 1) of nobody", x.change(0, 1), BAD);
        house("a11 k100 w800 s200");
        is("the critic to seat 8, the coward to seat 1", x.change(0, 1), 2);
        tells("sitter(0, 1)", x.sitter(0, 1), 1, 8);
        tells("sitter(1, 1)", x.sitter(1, 1), 1, 1);
        tells("sitter(2, 1)", x.sitter(2, 1), 1, 2);
        is("change(2, 1)", x.change(2, 1), 2);
        is("change(0, 2)", x.change(0, 2), 3);
        is("can()", x.can(), 7);
        is("deeds", x.count(3), 3);
        is("change(0, 0)", x.change(0, 0), BAD);
        is("change(0, 3)", x.change(0, 3), BAD);
        is("change(3, 0)", x.change(3, 0), BAD);
        is("change(-1, 0)", x.change(-1, 0), BAD);
        is("change(0, -1)", x.change(0, -1), BAD);
        x.call(2);
        is("one who was called changes, too", x.change(0, 2), 1);
        is("behind all scenes", x.change(0, 2), 2);
        changes(34);
        is("deeds", x.count(3), 40);
        is("change(0, 1)", x.change(0, 1), FULL);
        is("change(1, 1)", x.change(1, 1), BAD);
    }

    private static void undone() {
        fresh("18 undo");
        is("undo(0) of no deeds", x.undo(0), 0);
        is("undo(1) of no deeds", x.undo(1), BAD);
        house(FIVE);
        long[] ahead = new long[5];
        ahead[0] = x.digest();
        x.change(0, 3);
        ahead[1] = x.digest();
        x.call(4);
        ahead[2] = x.digest();
        x.cut();
        ahead[3] = x.digest();
        x.call(3);
        ahead[4] = x.digest();
        is("undo(5)", x.undo(5), BAD);
        is("undo(-1)", x.undo(-1), BAD);
        is("undo(4)", x.undo(4), 0);
        is("nothing undone", x.digest(), ahead[4]);
        is("undo(2)", x.undo(2), 2);
        is("as it was behind two deeds", x.digest(), ahead[2]);
        is("the last one is called again", x.call(1), 1);
        is("undo(1)", x.undo(1), 2);
        is("as it was behind one deed", x.digest(), ahead[1]);
        is("undo(0)", x.undo(0), 1);
        is("as it was at first", x.digest(), ahead[0]);
        x.lots(77);
        is("undo(1) of lots", x.undo(1), 2);
        is("undo(0) of lots", x.undo(0), 1);
        is("as it was at first again", x.digest(), ahead[0]);
    }

    private static void keptHouses() {
        fresh("19 keep");
        is("keep(3)", x.keep(3), BAD);
        is("keep(-1)", x.keep(-1), BAD);
        is("keep(0) of nobody", x.keep(0), STATE);
        house(FIVE);
        is("keep(2)", x.keep(2), 0);
        x.change(0, 3);
        x.call(4);
        is("keep(0)", x.keep(0), 2);
        is("kept", x.count(10), 2);
        long kept = x.digest();

        promise = "20 on";
        is("on(3)", x.on(3), BAD);
        is("on(-1)", x.on(-1), BAD);
        finds("on(1)", x.on(1), NOTHING);
        x.cut();
        x.call(1);
        is("on(0)", x.on(0), 2);
        is("as it was kept", x.digest(), kept);
        x.undo(0);
        x.cut();
        is("on(0) again", x.on(0), 2);
        is("as it was kept again", x.digest(), kept);
        is("undo(1)", x.undo(1), 1);
        is("deeds", x.count(3), 1);
        tells("the seat by the first deed", x.sitter(0, 1), 1, 7);
        is("keep(0) over the kept one", x.keep(0), 1);
        is("on(2)", x.on(2), 0);
        tells("the seat at first", x.sitter(0, 1), 1, 1);
        is("on(0) is the newer one", x.on(0), 1);
        is("kept ones stay", x.count(10), 2);
        x.house(0);
        finds("on(0) in a new house", x.on(0), NOTHING);
    }

    private static void whoCan() {
        fresh("21 can");
        is("nobody", x.can(), 0);
        house(FIVE);
        is("at first", x.can(), 1 | 2 | 16);
        x.call(1);
        is("one called", x.can(), 1 | 16);
        x.change(2, 0);
        is("the critic in seat 1", x.can(), 1 | 4 | 16);
        x.change(3, 2);
        is("the coward in seat 1, the critic in seat 7", x.can(), 1 | 4 | 8 | 16);
        x.cut();
        x.cut();
        is("behind all scenes", x.can(), 1 | 4 | 8 | 16);
    }
}
