import java.util.Arrays;

/** Promises 29 to 35 at their boundaries: notices, turns, chances, lots. */
public final class NightEdgesTest extends Bench {
    private static final int LAST_SEED = 2147483646;
    private static final String SIX_ALIKE = "a0111111 s090s190s290s390s490s590";
    private static final String SIX_FAIL = "a0999999 s000s100s200s300s400s500";

    public static void main(String[] args) {
        begin("NightEdgesTest");
        noticesRefused(29, "UNLIKE: a number that is none. (In this order.)", 1023);
        noticesRefused(30, "BAD; NOTHING; SIZE; UNLIKE. (In this order.)", 63);
        noticesOfTriples();
        noticesOfNumbers();
        frights();
        memories();
        claquesAsTheyAre();
        kinds();
        whomRefused();
        whom();
        duelRefused();
        duelTurns();
        oddsRefused();
        odds();
        mid();
        lotsRefused();
        lotsAmongFortyDeeds();
        lotsOfSeeds();
        lotsOfFew();
        end();
    }

    /** Both calls by notices refuse alike. */
    private static int byNotices(int number, int i, int r) {
        return number == 29 ? x.frights(i, r) : x.kinds(i, r);
    }

    private static void noticesRefused(int number, String sentence, int all) {
        edge(number, sentence);
        x.row(0, 0);
        refuses("of nobody", BAD, () -> byNotices(number, 0, 0));
        house("a01 s055 s100");
        x.row(5, 0);
        is("the first SITTER by row 0", byNotices(number, 0, 0), all);
        is("the last SITTER by row 5", byNotices(number, 1, 5), all);
        for (int n : new int[] {-1, MIN, MAX}) {
            refuses("by row " + n, BAD, () -> byNotices(number, 0, n));
            refuses("of " + n, BAD, () -> byNotices(number, n, 0));
        }
        refuses("by row 6", BAD, () -> byNotices(number, 0, 6));
        refuses("of 2", BAD, () -> byNotices(number, 2, 0));
        finds("by a missing row", NOTHING, () -> byNotices(number, 0, 1));
        refuses("BAD comes ahead of NOTHING", BAD, () -> byNotices(number, 2, 1));
        x.row(2, 4);
        refuses("BAD comes ahead of SIZE", BAD, () -> byNotices(number, -1, 2));
        finds("SIZE comes ahead of UNLIKE", SIZE, () -> byNotices(number, 0, 2));
        x.row(2, 3);
        refuses("BAD comes ahead of UNLIKE", BAD, () -> byNotices(number, 2, 2));
        finds("UNLIKE", UNLIKE, () -> byNotices(number, 0, 2));
    }

    private static void noticesOfTriples() {
        edge(29, "SIZE: not by triples (a ROW without places is well)");
        house("a01 s050");
        x.row(2, 0);
        tells("no notices", x.frights(0, 2), 1023, 1023);
        is("no notices, kinds", x.kinds(0, 2), 63);
        for (int n : new int[] {1, 2, 4, 5, 38, 40}) {
            x.row(2, n);
            finds(n + " places", SIZE, () -> x.frights(0, 2));
            finds(n + " places, kinds", SIZE, () -> x.kinds(0, 2));
        }
        int[] thirteen = new int[39];
        for (int k = 0; k < 39; k += 3) {
            thirteen[k] = 5;
            thirteen[k + 2] = 1;
        }
        row(2, thirteen);
        tells("39 places", x.frights(0, 2), 1, 992);
        is("39 places, kinds", x.kinds(0, 2), 63);
        x.lay(2, 38, 0);
        tells("unlike by the last triple", x.frights(0, 2), 0, 0);
        is("unlike by the last triple, kinds", x.kinds(0, 2), 0);
        x.lay(2, 38, 2);
        finds("the last place is no number", UNLIKE, () -> x.frights(0, 2));
        finds("the last place is no number, kinds", UNLIKE, () -> x.kinds(0, 2));
    }

    private static void notice(boolean taken, int... triples) {
        row(2, triples);
        String what = Arrays.toString(triples);
        if (taken) {
            due.holds(promise + ": frights by " + what, x.frights(0, 2) >= 0);
            due.holds(promise + ": kinds by " + what, x.kinds(0, 2) >= 0);
        } else {
            finds("frights by " + what, UNLIKE, () -> x.frights(0, 2));
            finds("kinds by " + what, UNLIKE, () -> x.kinds(0, 2));
        }
    }

    private static void noticesOfNumbers() {
        edge(29, "(a ROW of triples: LINES 1 .. 9, APPLAUSE -9 .. 20 ahead, 1: nothing was LACKING, 0: something;");
        house("a01 s055");
        notice(false, 0, 0, 0);
        notice(true, 1, 0, 0);
        notice(true, 9, 0, 0);
        notice(false, 10, 0, 0);
        notice(false, -1, 0, 0);
        notice(false, MIN, 0, 0);
        notice(false, MAX, 0, 0);

        edge(29, "(a ROW of triples: LINES 1 .. 9, APPLAUSE -9 .. 20 ahead, 1: nothing was LACKING, 0: something;");
        house("a01 s055");
        notice(false, 1, -10, 0);
        notice(true, 1, -9, 0);
        notice(true, 1, 20, 0);
        notice(false, 1, 21, 0);
        notice(false, 1, MIN, 0);
        notice(false, 1, MAX, 0);
        notice(false, 1, 0, -1);
        notice(true, 1, 0, 1);
        notice(false, 1, 0, 2);
        notice(false, 1, 0, MIN);
        notice(false, 1, 0, MAX);

        edge(29, "UNLIKE: a number that is none.");
        house("a01 s055");
        notice(false, 1, 0, 0, 0, 0, 0);
        notice(false, 1, 0, 0, 1, 21, 0);
        notice(false, 1, 0, 0, 1, 0, 2);
        notice(false, 0, 0, 0, 1, 0, 0);
        notice(false, 1, 0, 1, 1, 0, 0, 1, -10, 0);
    }

    private static void frights(int i, int frights, int memories) {
        tells("frights(" + i + ", 2)", x.frights(i, 2), frights, memories);
    }

    private static void frights() {
        edge(29, "FRIGHTS (bits 0 .. 9) that a SITTER can have by these, MEMORY as it is");
        house("a01 s050 s199 c250 u350 u451 q590");
        row(2, 5, 0, 1);
        frights(0, 1, 992);
        frights(1, 31, 0);
        frights(2, 7, 1016);
        frights(3, 63, 1016);
        row(2, 5, 9, 1);
        frights(0, 1023, 992);
        row(2, 5, 8, 1);
        frights(0, 511, 992);
        row(2, 5, 0, 0);
        frights(0, 1022, 31);
        row(2, 1, -9, 1);
        frights(0, 0, 0);
        frights(2, 1023, 1023);
        row(2, 9, -9, 0);
        frights(0, 1023, 1023);
        row(2, 1, -5, 1);
        frights(0, 0, 960);
        row(2, 1, -4, 1);
        frights(0, 1, 992);
        frights(1, 31, 0);
        row(2, 9, 20, 1);
        frights(0, 0, 512);
        frights(1, 1023, 512);
        frights(2, 0, 896);
        row(2, 2, 0, 1, 2, 0, 0);
        frights(0, 0, 0);
    }

    private static void memories() {
        edge(29, "MEMORIES that he can have, FRIGHT as it is, by asked() (bits)");
        house("a01 s050 s159 u259 q350");
        row(2, 9, 0, 1);
        frights(0, 0, 512);
        frights(1, 0, 0);
        row(2, 1, 0, 0);
        frights(0, 992, 1);
        frights(1, 992, 1023);
        row(2, 9, 9, 1);
        frights(1, 0, 512);
        row(2, 3, 0, 1);
        frights(2, 1023, 992);
        row(2, 4, 0, 1, 5, 0, 0);
        frights(0, 2, 16);
        frights(3, 64 + 128, 4);
    }

    private static void claquesAsTheyAre() {
        edge(29, "CLAQUES as they are now");
        house("a0111 q000 q100 q200 s390");
        row(2, 4, 0, 1);
        frights(0, 1023, 1023);
        row(2, 5, 0, 1);
        frights(0, 0, 1022);
        x.call(1);
        row(2, 4, 0, 1);
        frights(0, 0, 1022);
        frights(1, 1023, 1023);
        row(2, 3, 0, 1);
        frights(0, 1023, 1023);
        x.call(2);
        frights(0, 0, 1022);
        row(2, 2, 0, 1);
        frights(0, 1023, 1023);
    }

    private static void kinds(int i, int kinds, int... notices) {
        row(2, notices);
        is("kinds(" + i + ") by " + Arrays.toString(notices), x.kinds(i, 2), kinds);
    }

    private static void kinds() {
        edge(30, "KINDS (bits) that he can be of by these.");
        house("a01 s050 s155 q250 q350 s454");
        kinds(0, 63);
        kinds(0, 63, 5, 0, 1);
        kinds(0, 0, 5, 0, 0);
        kinds(0, 1 + 4 + 16, 6, 0, 0);
        kinds(0, 2 + 8 + 32, 6, 0, 1);
        kinds(0, 2 + 8 + 32, 7, 0, 1);
        kinds(0, 32, 8, 0, 1);
        kinds(0, 32, 9, 0, 1);
        kinds(0, 31, 9, 0, 0);
        kinds(0, 2 + 8, 7, 0, 1, 8, 0, 0);
        kinds(1, 1 + 4 + 16, 2, 0, 0);
        kinds(1, 2, 2, 0, 1, 3, 0, 0);
        kinds(1, 8, 5, 0, 1, 6, 0, 0);
        kinds(1, 32, 7, 0, 1);
        kinds(2, 32, 8, 0, 1);
        kinds(2, 0, 9, 0, 1);
        kinds(4, 63, 1, 0, 1);
        kinds(4, 2 + 8 + 32, 2, 0, 1);
        x.call(3);
        kinds(0, 32, 8, 0, 1);
        kinds(0, 0, 9, 0, 1);
        kinds(2, 0, 8, 0, 1);
        kinds(3, 32, 8, 0, 1);
        is("asked() is not told", x.asked(), 0);
        kinds(0, 0, 5, 0, 1, 5, 0, 0);
    }

    private static void whomRefused() {
        edge(31, "BAD; STATE: all SCENES are over, or there are none.");
        refuses("there are none", STATE, () -> x.whom(0));
        refuses("there are none, for nine", STATE, () -> x.whom(9));
        refuses("BAD comes ahead of STATE below", BAD, () -> x.whom(-1));
        refuses("BAD comes ahead of STATE above", BAD, () -> x.whom(10));
        house("a09 s000");
        tells("for none", x.whom(0), 0, 1);
        tells("for nine", x.whom(9), 1, 1);
        for (int n : new int[] {-1, 10, MIN, MAX}) {
            refuses("whom(" + n + ")", BAD, () -> x.whom(n));
        }
        x.cut();
        refuses("all are over", STATE, () -> x.whom(0));
        refuses("BAD comes ahead of STATE behind all", BAD, () -> x.whom(10));
    }

    private static void whom() {
        edge(31, "(bits; of those who CAN be called)");
        house("a955 s050 c150 k240 w740 s340 s430");
        tells("lacking none", x.whom(0), 3, 3);
        tells("lacking one", x.whom(1), 16, 3);
        tells("lacking two", x.whom(2), 32, 3);
        tells("lacking three", x.whom(3), 0, 3);
        is("call(4)", x.call(4), 1);
        tells("lacking one, by APPLAUSE the same", x.whom(1), 0, 2);
        tells("lacking two then", x.whom(2), 32, 2);

        edge(31, "the number of unlike such answers (of all who CAN) by asked()");
        house("a09 k200 w700");
        tells("nobody can", x.whom(9), 0, 0);
        tells("nobody can, for none", x.whom(0), 0, 0);
        house("a01 s010 s120 s290");
        tells("all alike", x.whom(0), 7, 1);
        house("a06 s060 s150 s240 s330 s420 s510");
        tells("six unlike ones", x.whom(5), 32, 6);
        house("a09 s090 s180 s270");
        x.call(0);
        x.undo(0);
        tells("three unlike ones", x.whom(0), 1, 3);
        is("nothing is done", x.count(3), 0);
    }

    private static void duelRefused() {
        edge(32, "BAD; STATE: no SITTERS.");
        refuses("no SITTERS", STATE, () -> x.duel(0));
        refuses("no SITTERS, four SCENES", STATE, () -> x.duel(4));
        refuses("BAD comes ahead of STATE below", BAD, () -> x.duel(-1));
        refuses("BAD comes ahead of STATE above", BAD, () -> x.duel(5));
        house(SIX_ALIKE);
        is("duel(0)", x.duel(0), 0);
        is("duel(4)", x.duel(4), 4);
        for (int n : new int[] {-1, 5, MIN, MAX}) {
            refuses("duel(" + n + ")", BAD, () -> x.duel(n));
        }
        is("asked() is not told", x.asked(), 0);
    }

    private static void duelTurns() {
        edge(32, "Two call by turns for n (0 .. 4) SCENES (as many as there are yet), the first one begins");
        house("a0555555 s050 s150 s250 s300 s400 s500");
        int[] due = {0, 1, 1, 2, 2};
        for (int n = 0; n <= 4; n++) {
            is("duel(" + n + ")", x.duel(n), due[n]);
        }
        x.cut();
        is("the first one begins in SCENE 1, too", x.duel(1), 1);
        over(3);
        is("two SCENES yet", x.duel(4), 1);
        over(1);
        is("one SCENE yet", x.duel(4), 1);
        over(1);
        is("none yet", x.duel(4), 0);
        is("none yet, for none", x.duel(0), 0);

        edge(32, "each calls one who CAN be, if there is any (else it is cut)");
        house("a01111 k090");
        is("nobody", x.duel(4), 0);
        house("a01111 s090");
        is("one", x.duel(4), 1);
        house("a01111 s090 s190");
        is("two", x.duel(4), 2);
        house("a09911 s000 s100");
        is("two who have to fail", x.duel(4), 0);
        is("nothing is done", x.count(3), 0);
        house("a01111 s090 s190");
        x.call(0);
        is("CARRIED ahead does not count", x.duel(4), 1);
        house("a144 s030 s130");
        is("by one PROMPT", x.duel(2), 1);
        house("a244 s030 s130");
        is("by two PROMPTS", x.duel(2), 2);
    }

    private static void oddsRefused() {
        edge(33, "BAD; STATE: no SITTERS.");
        refuses("no SITTERS", STATE, () -> x.odds(0));
        refuses("no SITTERS, six SCENES", STATE, () -> x.odds(6));
        refuses("BAD comes ahead of STATE below", BAD, () -> x.odds(-1));
        refuses("BAD comes ahead of STATE above", BAD, () -> x.odds(7));
        house(SIX_ALIKE);
        tellsFraction("odds(0)", x.odds(0), 1, 1);
        tellsFraction("odds(6)", x.odds(6), 1, 1);
        for (int n : new int[] {-1, 7, MIN, MAX}) {
            refuses("odds(" + n + ")", BAD, () -> x.odds(n));
        }
    }

    private static void odds() {
        edge(33, "in lowest terms, the lower number above 0 (0 by 1)");
        house("a05 s050 s150 s200 s300");
        tellsFraction("two of four", x.odds(1), 1, 2);
        tellsFraction("none", x.odds(2), 0, 1);
        tellsFraction("all", x.odds(0), 1, 1);
        house("a05 s050 s150 s250 s300");
        tellsFraction("three of four", x.odds(1), 3, 4);
        house("a05 s050");
        tellsFraction("the only one", x.odds(1), 1, 1);
        house("a05 s040");
        tellsFraction("the only one, who fails", x.odds(1), 0, 1);

        edge(33, "(it is cut, if there is none)");
        house("a011 k090");
        tellsFraction("nobody, none", x.odds(0), 1, 1);
        tellsFraction("nobody, one", x.odds(1), 0, 1);
        house("a0111 s090 s190");
        tellsFraction("two for three SCENES", x.odds(2), 1, 1);
        tellsFraction("all three", x.odds(3), 0, 1);

        edge(33, "Chances that n (0 .. 6) SCENES yet or more are CARRIED");
        house("a011 s090 s190");
        x.call(0);
        tellsFraction("one yet", x.odds(1), 1, 1);
        tellsFraction("two yet", x.odds(2), 0, 1);
        over(1);
        tellsFraction("none yet, none", x.odds(0), 1, 1);
        tellsFraction("none yet, one", x.odds(1), 0, 1);
        house("a0555555 s050 s100 s200 s300 s400 s500");
        tellsFraction("one of six", x.odds(1), 1, 6);
        is("nothing is done", x.count(3), 0);
        is("asked() is not told", x.asked(), 0);
    }

    private static void mid() {
        edge(34, "The mean of APPLAUSE behind all (below 0, too): 1. STATE: no SITTERS.");
        refuses("no SITTERS", STATE, () -> x.mid());
        house(SIX_ALIKE);
        tellsFraction("the most", x.mid(), 12, 1);
        house(SIX_FAIL);
        tellsFraction("the least", x.mid(), -6, 1);
        house("a05 s050 s100 s200");
        tellsFraction("0 by 1", x.mid(), 0, 1);
        house("a05 s050 s100 s200 s300");
        tellsFraction("below 0, in lowest terms", x.mid(), -1, 4);
        house("a05 s050 s150 s200 s300");
        tellsFraction("above 0, in lowest terms", x.mid(), 1, 2);
        house("a11 k000");
        tellsFraction("nobody", x.mid(), 0, 1);
        house("a019 s090 s100");
        x.call(1);
        tellsFraction("by APPLAUSE ahead", x.mid(), -2, 1);
        over(1);
        tellsFraction("behind all, below 0", x.mid(), -1, 1);
        house("a01 s090");
        x.call(0);
        tellsFraction("behind all, above 0", x.mid(), 2, 1);
        is("asked() is not told", x.asked(), 0);
        is("nothing is done", x.count(3), 1);
    }

    private static void lotsRefused() {
        edge(35, "the first from the seed (1 .. 2147483646)");
        house(SIX_ALIKE);
        refuses("lots(0)", BAD, () -> x.lots(0));
        refuses("lots(2147483647)", BAD, () -> x.lots(MAX));
        refuses("lots(-1)", BAD, () -> x.lots(-1));
        refuses("lots(MIN)", BAD, () -> x.lots(MIN));
        is("lots(1)", x.lots(1), 6);
        x.undo(0);
        is("lots(2147483646)", x.lots(LAST_SEED), 6);

        edge(35, "BAD; STATE: all SCENES are over, or there are none; FULL: there would be more than 40 DEEDS. (FULL last.)");
        refuses("there are none", STATE, () -> x.lots(1));
        refuses("BAD comes ahead of STATE", BAD, () -> x.lots(0));
        house("a01 s000 s100");
        over(1);
        refuses("all are over", STATE, () -> x.lots(1));
        refuses("BAD comes ahead of STATE behind all", BAD, () -> x.lots(MAX));
        changes(39);
        refuses("STATE comes ahead of FULL", STATE, () -> x.lots(1));
        x.undo(0);
        changes(40);
        refuses("BAD comes ahead of FULL", BAD, () -> x.lots(0));
        refuses("one SCENE, 40 DEEDS", FULL, () -> x.lots(1));
        x.undo(39);
        is("one SCENE, 39 DEEDS", x.lots(1), 0);
    }

    private static void lotsAmongFortyDeeds() {
        edge(35, "FULL: there would be more than 40 DEEDS.");
        house(SIX_ALIKE);
        changes(35);
        refuses("six SCENES, 35 DEEDS", FULL, () -> x.lots(1));
        is("none is done", x.count(2), 0);
        x.undo(34);
        is("six SCENES, 34 DEEDS", x.lots(1), 6);
        is("40 DEEDS", x.count(3), 40);
        house("a011 k090 k290");
        changes(39);
        refuses("two SCENES to be cut, 39 DEEDS", FULL, () -> x.lots(1));
        x.undo(38);
        is("two SCENES to be cut, 38 DEEDS", x.lots(1), 0);
        is("40 DEEDS by cuts", x.count(3), 40);
        house(SIX_ALIKE);
        over(3);
        changes(34);
        is("three SCENES, 37 DEEDS", x.lots(1), 3);
        x.undo(37);
        changes(1);
        refuses("three SCENES, 38 DEEDS", FULL, () -> x.lots(1));
    }

    /** Who is called, as what is left of them tells when deed by deed is undone. */
    private static void drawn(String house, int seed, int... order) {
        house(house);
        int all = x.can();
        due.holds(promise + ": lots(" + seed + ")", x.lots(seed) >= 0);
        is("DEEDS by lots(" + seed + ")", x.count(3), order.length);
        for (int k = order.length - 1; k >= 0; k--) {
            x.undo(k);
            int left = all;
            for (int before = 0; before < k; before++) {
                left &= order[before] < 0 ? left : ~(1 << order[before]);
            }
            is("left of " + house + " ahead of lot " + k + " of seed " + seed, x.can(), left);
        }
    }

    private static void lotsOfSeeds() {
        edge(35, "a number comes from the one ahead by 48271 times it modulo 2147483647, the first from the seed");
        drawn(SIX_ALIKE, 1, 3, 5, 0, 2, 1, 4);
        drawn(SIX_ALIKE, 2, 1, 4, 2, 5, 0, 3);
        drawn(SIX_ALIKE, 7, 3, 5, 1, 0, 4, 2);
        drawn(SIX_ALIKE, LAST_SEED, 0, 2, 5, 4, 3, 1);
        drawn(SIX_ALIKE, LAST_SEED - 1, 2, 3, 4, 1, 5, 0);

        edge(35, "the one of those who CAN be called (by numbers) that it by 8, cut, modulo how many they are is, is called");
        drawn("a0999 s000 s100 k200 s300", 1, 0, 1, 3);
        drawn("a0999 s000 s100 k200 s300", 7, 0, 3, 1);
        drawn("a0999 s000 s100 k200 s300", LAST_SEED - 1, 3, 1, 0);
        drawn("a0999 k000 s100 w700 s300 k400 s500", 2, 3, 1, 5);
        drawn("a0999 k000 s100 w700 s300 k400 s500", LAST_SEED, 1, 5, 3);
    }

    private static void lotsOfFew() {
        edge(35, "(it is cut, if there is none): how many were CARRIED.");
        drawn("a0111 s090", 1, 0, NONE, NONE);
        drawn("a0111 s090", LAST_SEED, 0, NONE, NONE);
        drawn("a011 k090", 1, NONE, NONE);
        house("a011 k090");
        is("nobody is CARRIED", x.lots(5), 0);
        is("all are over", x.count(2), 2);
        house("a0111 s090");
        is("one is CARRIED", x.lots(5), 1);
        house(SIX_FAIL);
        is("all fail", x.lots(5), 0);
        is("APPLAUSE", x.applause(), 994);
        house(SIX_ALIKE);
        x.call(2);
        x.cut();
        is("those CARRIED ahead do not count", x.lots(5), 4);
        is("CARRIED in all", x.count(6), 5);
        is("asked() is not told", x.asked(), 0);
    }
}
