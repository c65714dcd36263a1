/** Promises 12 to 14 and 21 at their boundaries: what one fears, says, tells of his kind, and who can be called. */
public final class SitterEdgesTest extends Bench {
    private static final int KIND = 0, SEAT = 1, FEARS = 4, SAYS = 5, CALLED = 6, CAN = 7;
    private static final String ONE_OF_EACH = "a01 s000 c100 k200 u300 w400 q500";

    public static void main(String[] args) {
        begin("SitterEdgesTest");
        numbers();
        fears();
        fearsBelowNoApplause();
        says();
        saysOfClaques();
        canBeCalled();
        tellsOneOrNone();
        marksOfKinds();
        marksRefused();
        marksOfClerks();
        marksOfCritics();
        marksOfUncles();
        marksOfCowards();
        marksOfClaques();
        lines();
        can();
        end();
    }

    /** One thing of each sitter, as they come. */
    private static void each(String what, int number, int... values) {
        for (int i = 0; i < values.length; i++) {
            tells(what + " of " + i, x.sitter(i, number), 1, values[i]);
        }
    }

    private static void numbers() {
        edge(12, "Of a SITTER: 0 the KIND, 1 the SEAT, 2 MEMORY, 3 FRIGHT, 4 what he FEARS, 5 what he SAYS now,"
                + " 6 whether he was called, 7 whether he CAN be called (1, 0), all told by asked(): 1. BAD.");
        refuses("of nobody", BAD, () -> x.sitter(0, 0));
        house("a01s987");
        tells("the first number", x.sitter(0, 0), 1, 0);
        tells("the last number", x.sitter(0, 7), 1, 1);
        refuses("number -1", BAD, () -> x.sitter(0, -1));
        refuses("number 8", BAD, () -> x.sitter(0, 8));
        refuses("number MIN", BAD, () -> x.sitter(0, MIN));
        refuses("number MAX", BAD, () -> x.sitter(0, MAX));
        refuses("SITTER -1", BAD, () -> x.sitter(-1, 0));
        refuses("SITTER 1 of one", BAD, () -> x.sitter(1, 0));
        house(ONE_OF_EACH);
        tells("the last SITTER", x.sitter(5, 0), 1, 5);
        refuses("SITTER 6 of six", BAD, () -> x.sitter(6, 0));
        refuses("SITTER MIN", BAD, () -> x.sitter(MIN, 0));
        refuses("SITTER MAX", BAD, () -> x.sitter(MAX, 7));
    }

    private static void fears() {
        edge(12, "What one FEARS is FRIGHT less APPLAUSE (which may be below 0), 0 at least;"
                + " of an UNCLE (CLAQUE, too) half of that (cut).");
        house("a0111111 s090 s191 c292 k393 u495 q594");
        each("FEARS by no APPLAUSE", FEARS, 0, 1, 2, 3, 2, 2);
        is("call(0)", x.call(0), 1);
        each("FEARS by 2", FEARS, 0, 0, 0, 1, 1, 1);
        is("call(1)", x.call(1), 1);
        each("FEARS by 4", FEARS, 0, 0, 0, 0, 0, 0);
        house("a0111111 u090 u191 u292 q393 q494 q599");
        each("half of 0 .. 4, and of 9", FEARS, 0, 0, 1, 1, 2, 4);
    }

    private static void fearsBelowNoApplause() {
        edge(12, "What one FEARS is FRIGHT less APPLAUSE (which may be below 0)");
        house("a0999999 s000 c109 k510 u200 u301 q409");
        is("call(0)", x.call(0), 0);
        each("FEARS by -1", FEARS, 1, 10, 1, 0, 1, 5);
        house("a0999999 s000 s100 s200 s300 c409 u509");
        for (int i = 0; i < 4; i++) {
            is("call(" + i + ")", x.call(i), 0);
        }
        each("FEARS by -4", FEARS, 4, 4, 4, 4, 13, 6);
        is("call(5)", x.call(5), 0);
        each("FEARS by -5", FEARS, 5, 5, 5, 5, 14, 7);
        is("call(4)", x.call(4), 0);
        each("FEARS by -6", FEARS, 6, 6, 6, 6, 15, 7);
    }

    private static void says() {
        edge(12, "One SAYS MEMORY less what one FEARS (0 at least); a CLERK (UNCLE, CLAQUE, too) 2 more");
        house("a01 s054 s155 s256 c354 c455 c556");
        each("SAYS one, none, none", SAYS, 1, 0, 0, 3, 2, 2);
        house("a01 u048 u138 u239 q419 k597 w690");
        each("by half the FRIGHT, cut", SAYS, 2, 2, 2, 2, 2, 9);
        house("a01 u058 q159");
        each("one more than none", SAYS, 3, 3);
        house("a01 s000 c100 k200 u300 w400");
        each("of no MEMORY", SAYS, 0, 2, 0, 2, 0);
        house("a01 s090 c190 k290 u390 w490 q590");
        each("of all MEMORY", SAYS, 9, 11, 9, 11, 9, 11);
    }

    private static void saysOfClaques() {
        edge(12, "a CLAQUE 1 more for each other CLAQUE that was not called");
        house("a0111111 q090 q100 q259 q300 q400 q500");
        each("five others", SAYS, 16, 7, 8, 7, 7, 7);
        is("call(5)", x.call(5), 1);
        each("four others, but five for the called one", SAYS, 15, 6, 8, 6, 6, 7);
        is("call(4)", x.call(4), 1);
        each("three others, four for those who were called", SAYS, 14, 5, 8, 5, 6, 6);
        house("a01 q000 u100");
        each("an UNCLE is no CLAQUE", SAYS, 2, 2);
        house("a01 q000 u100 q200");
        each("one other", SAYS, 3, 2, 3);
        x.cut();
        each("a cut calls nobody", SAYS, 3, 2, 3);
    }

    private static void canBeCalled() {
        edge(12, "Who was not called this night CAN be called; a CRITIC only from a SEAT of an odd number;"
                + " a COWARD only from a SEAT below 7.");
        for (int seat = 0; seat <= 9; seat++) {
            renew();
            house("a01k" + seat + "00");
            tells("a CRITIC in SEAT " + seat, x.sitter(0, CAN), 1, seat % 2);
            is("a CRITIC in SEAT " + seat + " by can()", x.can(), seat % 2);
            is("a CRITIC in SEAT " + seat + " called", x.call(0), seat % 2 == 1 ? 0 : STATE);
            house("a01w" + seat + "00");
            int can = seat <= 6 ? 1 : 0;
            tells("a COWARD in SEAT " + seat, x.sitter(0, CAN), 1, can);
            is("a COWARD in SEAT " + seat + " by can()", x.can(), can);
            is("a COWARD in SEAT " + seat + " called", x.call(0), can == 1 ? 0 : STATE);
        }
        for (char letter : new char[] {'s', 'c', 'u', 'q'}) {
            renew();
            for (int seat = 0; seat <= 9; seat++) {
                house("a01" + letter + seat + "00");
                tells(letter + " in SEAT " + seat, x.sitter(0, CAN), 1, 1);
            }
        }
        renew();
        house(ONE_OF_EACH);
        x.change(1, 2);
        each("a CRITIC in SEAT 1, by a change", CAN, 1, 1, 1, 1, 1, 1);
        is("call(2)", x.call(2), 0);
        each("a CRITIC who was called", CAN, 1, 1, 0, 1, 1, 1);
    }

    private static void tellsOneOrNone() {
        edge(12, "6 whether he was called, 7 whether he CAN be called (1, 0)");
        house("a01 s000 k200");
        each("called, nobody", CALLED, 0, 0);
        each("CAN, all but the CRITIC", CAN, 1, 0);
        x.call(0);
        each("called, the first one", CALLED, 1, 0);
        each("CAN, nobody", CAN, 0, 0);
        x.undo(0);
        each("undone", CALLED, 0, 0);
        each("undone, CAN", CAN, 1, 0);
        each("KIND stays", KIND, 0, 2);
        x.change(0, 1);
        each("SEAT by a change", SEAT, 2, 0);
    }

    private static void marksOfKinds() {
        edge(13, "What a SITTER that IS of a KIND tells");
        house(ONE_OF_EACH);
        int none = -1;
        int[][] due = {
            {none, none, none, none, none},
            {1, none, none, none, none},
            {none, 2, none, none, none},
            {1, none, 0, none, none},
            {none, none, none, 3, none},
            {1, none, 0, none, 0},
        };
        for (int i = 0; i < 6; i++) {
            for (int kind = 1; kind <= 5; kind++) {
                int sitter = i;
                int asKind = kind;
                String what = "SITTER " + i + " as KIND " + kind;
                if (due[i][kind - 1] == none) {
                    finds(what, UNLIKE, () -> x.mark(sitter, asKind));
                } else {
                    is(what, x.mark(i, kind), due[i][kind - 1]);
                }
            }
        }
        is("asked() is not told", x.asked(), 0);
    }

    private static void marksRefused() {
        edge(13, "BAD: also KIND 0; UNLIKE.");
        refuses("of nobody", BAD, () -> x.mark(0, 1));
        house("a01 s000 q100");
        for (int kind : new int[] {-1, 0, 6, MIN, MAX}) {
            refuses("KIND " + kind, BAD, () -> x.mark(1, kind));
        }
        for (int i : new int[] {-1, 2, MIN, MAX}) {
            refuses("SITTER " + i, BAD, () -> x.mark(i, 1));
        }
        is("the first KIND", x.mark(1, 1), 1);
        is("the last KIND", x.mark(1, 5), 0);
        refuses("BAD comes ahead of UNLIKE by the SITTER", BAD, () -> x.mark(2, 2));
        refuses("BAD comes ahead of UNLIKE by the KIND", BAD, () -> x.mark(0, 0));
        finds("UNLIKE", UNLIKE, () -> x.mark(0, 5));
    }

    private static void marksOfClerks() {
        edge(13, "a CLERK (UNCLE, CLAQUE, too) how many SCENES yet he would need no PROMPT for, as it is now");
        house("a91234 c010");
        is("says 3 for 1, 2, 3, 4", x.mark(0, 1), 3);
        int[] yet = {2, 1, 0, 0};
        for (int due : yet) {
            x.cut();
            is("behind SCENE " + x.count(2), x.mark(0, 1), due);
        }
        house("a0999999 c070 u160");
        is("all", x.mark(0, 1), 6);
        is("none", x.mark(1, 1), 0);
        house("a0344 q010 q100");
        is("says 4 by another CLAQUE", x.mark(0, 1), 3);
        is("says 3 by another CLAQUE", x.mark(1, 1), 1);
        x.call(1);
        is("says 3 then, of two SCENES", x.mark(0, 1), 0);
        house("a055 u007 s190");
        is("an UNCLE who says 2", x.mark(0, 1), 0);
        house("a044 u047 s190");
        is("an UNCLE who says 3", x.mark(0, 1), 0);
        is("call(1)", x.call(1), 1);
        is("an UNCLE who says 4 then", x.mark(0, 1), 1);
        is("call(0)", x.call(0), 1);
        is("behind all", x.mark(0, 1), 0);
    }

    private static void marksOfCritics() {
        edge(13, "a CRITIC how many others sit in SEATS of even numbers");
        house("a01 k000");
        is("alone", x.mark(0, 2), 0);
        house("a01 k000 s100 s300 s500 s700 s900");
        is("all others odd", x.mark(0, 2), 0);
        house("a01 k100 s000 s200 s400 s600 s800");
        is("all others even", x.mark(0, 2), 5);
        house("a01 k600 s000 s200 s400 s500 s800");
        is("even himself", x.mark(0, 2), 4);
        x.change(0, 4);
        is("odd himself, by a change", x.mark(0, 2), 5);
        house("a01 k800 k000 k200");
        is("other CRITICS, too", x.mark(0, 2), 2);
        house("a01 k100 s000 s200");
        x.call(1);
        is("one who was called, too", x.mark(0, 2), 2);
    }

    private static void marksOfUncles() {
        edge(13, "an UNCLE (CLAQUE, too) how much less he FEARS than others would");
        house("a01 u000 u101 u202 u303 q408 q509");
        int[] due = {0, 1, 1, 2, 4, 5};
        for (int i = 0; i < 6; i++) {
            is("mark(" + i + ", 3)", x.mark(i, 3), due[i]);
        }
        house("a019 s090 u101 u202 u303 q404");
        is("call(0)", x.call(0), 1);
        int[] dueBy2 = {0, 0, 1, 1};
        for (int i = 1; i < 5; i++) {
            is("by APPLAUSE 2, mark(" + i + ", 3)", x.mark(i, 3), dueBy2[i - 1]);
        }
        house("a099 s000 u100 u209 q301");
        is("call(0)", x.call(0), 0);
        is("by APPLAUSE -1, FRIGHT 0", x.mark(1, 3), 1);
        is("by APPLAUSE -1, FRIGHT 9", x.mark(2, 3), 5);
        is("by APPLAUSE -1, FRIGHT 1", x.mark(3, 3), 1);
    }

    private static void marksOfCowards() {
        edge(13, "a COWARD how many SEATS he is nearer than 7 (0 at least)");
        int[] due = {7, 6, 5, 4, 3, 2, 1, 0, 0, 0};
        for (int seat = 0; seat <= 9; seat++) {
            house("a01w" + seat + "00");
            is("SEAT " + seat, x.mark(0, 4), due[seat]);
        }
    }

    private static void marksOfClaques() {
        edge(13, "a CLAQUE how many other CLAQUES were not called");
        house("a01 q000 u100");
        is("alone", x.mark(0, 5), 0);
        house("a0111111 q000 q100 q200 q300 q400 q500");
        for (int i = 0; i < 6; i++) {
            is("of six, " + i, x.mark(i, 5), 5);
        }
        for (int i = 0; i < 6; i++) {
            is("call(" + i + ")", x.call(i), 1);
            is("the called one", x.mark(i, 5), 5 - i);
            is("the last one", x.mark(5, 5), i < 5 ? 4 - i : 0);
        }
    }

    private static void lines() {
        edge(14, "LINES of a SCENE. BAD.");
        refuses("no SCENE", BAD, () -> x.lines(0));
        house("a05s000");
        is("the only one", x.lines(0), 5);
        refuses("a second one of one", BAD, () -> x.lines(1));
        house("a0912345s000");
        is("the first one", x.lines(0), 9);
        is("the last one of six", x.lines(5), 5);
        refuses("a seventh one", BAD, () -> x.lines(6));
        refuses("lines(-1)", BAD, () -> x.lines(-1));
        refuses("lines(MIN)", BAD, () -> x.lines(MIN));
        refuses("lines(MAX)", BAD, () -> x.lines(MAX));
        is("asked() is not told", x.asked(), 0);
        for (int k = 0; k < 6; k++) {
            x.cut();
        }
        is("the first one when all are over", x.lines(0), 9);
        is("the last one when all are over", x.lines(5), 5);
    }

    private static void can() {
        edge(21, "SITTERS (bits) that CAN be called now.");
        is("nobody there", x.can(), 0);
        house("a01k000");
        is("nobody who can", x.can(), 0);
        house("a0111111 s000 c100 k300 u500 w600 q900");
        is("all six", x.can(), 63);
        for (int i = 0; i < 6; i++) {
            x.call(i);
            is("behind call(" + i + ")", x.can(), 63 & -1 << (i + 1));
        }
        x.undo(5);
        is("the last one alone", x.can(), 32);
        house("a01 w700 w600");
        is("one of two", x.can(), 2);
        is("by change()", x.change(0, 1), 1);
        is("the other one", x.can(), 1);
        is("asked() is not told", x.asked(), 0);
        house("a01 s000 s100 s200");
        x.call(1);
        is("behind all SCENES, too", x.can(), 5);
        tells("behind all SCENES by sitter()", x.sitter(2, 7), 1, 1);
    }
}
