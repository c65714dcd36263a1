/** Promises 22 to 35 by hand: plans, seats, notices, turns, chances, lots. */
public final class PlansTest extends Bench {
    /** Says 3, 7 (a clerk), can't (a critic in seat 2), can't (a coward in seat 7), 5; lines 6, 4, 1; 2 prompts. */
    private static final String FIVE = "a2641 s130 c050 k255 w709 s350";
    /** Says 2, 1, 4; lines 2, 4; no prompts. */
    private static final String THREE = "a024 s020 s110 s240";
    /** Lacks 1, 2, 1 in both scenes; 2 prompts. */
    private static final String PROMPTED = "a233 s020 s110 s220";

    public static void main(String[] args) {
        begin("PlansTest");
        plays();
        playsRefused();
        bests();
        bestsOfOthers();
        leasts();
        waysOfPlans();
        seatsToChange();
        besides();
        aparts();
        frightsAndMemories();
        noticesRefused();
        kindsByNotices();
        whoItWas();
        duels();
        chances();
        means();
        lotsOfNights();
        lotsRefused();
        end();
    }

    private static void play(int carried, int applause, int... plan) {
        row(0, plan);
        tells("play of " + java.util.Arrays.toString(plan), x.play(0), carried, applause);
    }

    private static void plays() {
        fresh("22 play");
        house(FIVE);
        play(3, 4, 4, 0, 1);
        play(1, 1, 0, 1);
        play(0, -1, 0);
        play(0, -1, 0, NONE);
        play(0, 0, NONE, NONE, NONE);
        play(1, 2, NONE, NONE, 4);
        play(0, 0);
        is("nothing is done", x.count(3), 0);
        x.call(0);
        play(0, -1);
        play(2, 3, 1, 4);
        play(1, 1, NONE, 4);
        house(PROMPTED);
        play(1, 0, 0, 1);
        play(1, 0, 1, 0);
        play(2, 2, 0, 2);
        house("a066 q230 q130 s560");
        play(1, 1, 0, 1);
        play(2, 4, 0, 2);
    }

    private static void unlike(int... plan) {
        row(0, plan);
        finds("play of " + java.util.Arrays.toString(plan), x.play(0), UNLIKE);
    }

    private static void playsRefused() {
        fresh("22 play, refused");
        is("play(6)", x.play(6), BAD);
        is("play(-1)", x.play(-1), BAD);
        is("play(0) of nobody", x.play(0), STATE);
        house(FIVE);
        finds("play(0)", x.play(0), NOTHING);
        row(0, 77, NONE, NONE, NONE);
        finds("four of three", x.play(0), SIZE);
        unlike(2);
        unlike(3);
        unlike(5);
        unlike(-1);
        unlike(-8);
        unlike(0, 0);
        unlike(0, NONE, 0);
        unlike(Integer.MAX_VALUE);
        x.call(4);
        unlike(4);
        row(0, NONE, NONE, NONE);
        finds("three of two", x.play(0), SIZE);
    }

    private static void best(String house, int carried, int gone, int... plan) {
        house(house);
        long before = x.count(3);
        tells("best of " + house, x.best(3), carried, gone);
        rowIs("best of " + house, 3, plan);
        is("nothing is done", x.count(3), before);
    }

    private static void bests() {
        fresh("23 best");
        is("best(6)", x.best(6), BAD);
        is("best(-1)", x.best(-1), BAD);
        is("best(0) of nobody", x.best(0), STATE);
        is("no row by refusals", x.count(8), 0);
        best("a099 s000 s100", 0, 0, NONE, NONE);
        best("a93 s010 s130", 1, 0, 1);
        best("a93 s030 s140", 1, 0, 0);
        best("a044s050", 1, 0, NONE, 0);
        best("a094s050", 1, 0, NONE, 0);
        best(PROMPTED, 2, 2, 0, 2);
        best("a014 s010 s153", 2, 0, 0, 1);
        best("a99 s000", 1, 9, 0);
        best("a89 s000", 0, 0, NONE);
        best("a15 s140 k290 w790", 1, 1, 0);
        best("a066 q230 q130 s560", 2, 0, 0, 2);
        best("a055 q230 q130 s560", 2, 0, 0, 1);
        best("a366 s230 s350", 1, 1, NONE, 1);
        best("a466 s130 s350", 2, 4, 0, 1);
        best(FIVE, 3, 0, 1, 4, 0);
        is("best(3) again", x.best(3), 3);
    }

    private static void bestsOfOthers() {
        fresh("23 best, later");
        house(FIVE);
        row(3, 1, 2, 3, 4, 5);
        x.call(1);
        tells("with two scenes yet", x.best(3), 2, 0);
        rowIs("with two scenes yet", 3, 4, 0);
        x.cut();
        x.cut();
        tells("with none", x.best(3), 0, 0);
        rowIs("with none", 3);
    }

    private static void leasts() {
        fresh("24 least");
        is("of nobody", x.least(), STATE);
        house("a064 s130 s250");
        tells("the second one first", x.least(), 2, 1);
        is("no prompts by it", x.count(4), 0);
        house("a064 s130 s230");
        tells("the first of two alike", x.least(), 4, 0);
        house("a0999999 s000s100s200s300s400s500");
        tells("all lacking", x.least(), 54, 0);
        house("a0111 s090 s190");
        tells("too few", x.least(), NONE, 0);
        house("a01 k090");
        is("one who can't", x.least(), NONE);
        house("a064 s130 s250");
        x.least();
        x.call(1);
        tells("one scene yet", x.least(), 2, 0);
        x.cut();
        tells("no scene", x.least(), 0, NONE);
        house("a01 k090");
        tells("asked() stays by NONE", x.least(), NONE, NONE);
    }

    private static void waysOfPlans() {
        fresh("25 ways");
        is("ways(7)", x.ways(7), BAD);
        is("ways(-1)", x.ways(-1), BAD);
        is("ways(0) of nobody", x.ways(0), STATE);
        house("a064 s130 s250");
        tellsFraction("ways(0)", x.ways(0), 7, 1);
        is("nobody is in all", x.asked(), 0);
        tellsFraction("ways(1)", x.ways(1), 2, 1);
        is("one is in all", x.asked(), 2);
        tellsFraction("ways(2)", x.ways(2), 0, 1);
        is("nobody in none", x.asked(), 0);
        house("a011 s010 s110");
        tellsFraction("ways(2) of all", x.ways(2), 2, 1);
        is("both are in all", x.asked(), 3);
        x.call(0);
        tellsFraction("ways(1) then", x.ways(1), 1, 1);
        is("the called one is not in the plan", x.asked(), 2);
        x.cut();
        tellsFraction("ways(0) behind all", x.ways(0), 1, 1);
        is("nobody is called", x.asked(), 0);
        tellsFraction("ways(1) behind all", x.ways(1), 0, 1);
        house("a011s010");
        tellsFraction("ways(0) with one for two scenes", x.ways(0), 3, 1);
        tellsFraction("ways(1) with one for two scenes", x.ways(1), 2, 1);
        is("he is in all", x.asked(), 1);
        house(PROMPTED);
        tellsFraction("ways(2) by prompts", x.ways(2), 2, 1);
        is("those in all", x.asked(), 1 | 4);
        house("a0111111 s090s190s290s390s490s590");
        tellsFraction("ways(0) of six", x.ways(0), 13327, 1);
        tellsFraction("ways(6) of six", x.ways(6), 720, 1);
        tellsFraction("ways(5) of six", x.ways(5), 720 + 4320, 1);
    }

    private static void seatsToChange() {
        fresh("26 seats");
        is("of nobody", x.seats(), STATE);
        house("a05 k060 w170");
        is("one carries it already", x.seats(), NONE);
        is("asked() stays", x.asked(), 0);
        house("a05 k060 s110");
        tells("the critic to seat 1", x.seats(), 1, 1);
        tells("no seat is changed", x.sitter(0, 1), 1, 0);
        house("a05 k060 s110 s310");
        tells("the first of two", x.seats(), 1, 1);
        house("a05 s210 k060 s310");
        tells("the last pair", x.seats(), 12, 1);
        house("a055 s110 k260 w970 k460 w870 s600");
        tells("a critic and a coward to good seats", x.seats(), 12, 2);
        house("a05 k060");
        is("no pair", x.seats(), NONE);
        is("asked() stays again", x.asked(), 2);
        house("a05 k060 s110");
        x.cut();
        is("no scene", x.seats(), NONE);
    }

    private static void besides() {
        fresh("27 beside");
        is("of nobody", x.beside(), STATE);
        house("a01 s000 s900");
        tells("far ones", x.beside(), 0, 1);
        house("a01 s400 s600 s500 s900 s800");
        tells("three and two", x.beside(), 3, 3);
        x.call(2);
        tells("one called", x.beside(), 3, 3);
        house("a01 s000 s100 s200 s300 s400 s500");
        tells("six", x.beside(), 5, 6);
        house("a01 s300");
        tells("one alone", x.beside(), 0, 1);
        house("a01 s100 s800 s300 s900");
        tells("beside the last seat", x.beside(), 1, 2);
    }

    private static void aparts() {
        fresh("28 apart");
        is("of nobody", x.apart(), STATE);
        house("a01 s000 s900");
        tells("far ones", x.apart(), 0, 0);
        house("a01 s400 s600 s500 s900 s800");
        tells("three and two", x.apart(), 2, 4 | 8);
        house("a01 s100 s000");
        tells("the least number", x.apart(), 1, 1);
        house("a01 s900 s800 s700 s600");
        tells("four", x.apart(), 2, 1 | 4);
        house("a01 s300");
        tells("one alone", x.apart(), 0, 0);
        house("a01 s100 s800 s300 s900");
        tells("beside the last seat", x.apart(), 1, 2);
    }

    private static void frightsAndMemories() {
        fresh("29 frights");
        house("a01 s055 c155 u255 q355 q455");
        row(2, 5, 0, 1);
        tells("a sitter", x.frights(0, 2), 1, 0);
        tells("a clerk", x.frights(1, 2), 7, 768);
        tells("an uncle", x.frights(2, 2), 63, 992);
        tells("a claque", x.frights(3, 2), 255, 1008);
        x.call(4);
        tells("a claque, the other one called", x.frights(3, 2), 63, 992);
        row(2, 5, 3, 0);
        tells("something was lacking", x.frights(0, 2), 1023 - 15, 127);
        row(2, 5, 3, 0, 3, 3, 1);
        tells("between", x.frights(0, 2), 16 + 32, 32 + 64);
        row(2, 5, 3, 0, 5, 3, 1);
        tells("none fits", x.frights(0, 2), 0, 0);
        row(2, 1, -9, 0, 9, 20, 0);
        tells("edges of the notices", x.frights(0, 2), 1023, 511);
        row(2);
        tells("no notices", x.frights(0, 2), 1023, 1023);
    }

    private static void noNotice(int finding, int... notices) {
        row(2, notices);
        finds("frights by " + java.util.Arrays.toString(notices), x.frights(0, 2), finding);
        finds("kinds by " + java.util.Arrays.toString(notices), x.kinds(0, 2), finding);
    }

    private static void noticesRefused() {
        fresh("29, 30 notices, refused");
        row(2);
        is("frights(0, 2) of nobody", x.frights(0, 2), BAD);
        is("kinds(0, 2) of nobody", x.kinds(0, 2), BAD);
        house("a01 s055");
        int[][] bad = {{1, 2}, {-1, 2}, {0, 6}, {0, -1}};
        for (int[] pair : bad) {
            is("frights(" + pair[0] + ", " + pair[1] + ")", x.frights(pair[0], pair[1]), BAD);
            is("kinds(" + pair[0] + ", " + pair[1] + ")", x.kinds(pair[0], pair[1]), BAD);
        }
        finds("frights(0, 1)", x.frights(0, 1), NOTHING);
        finds("kinds(0, 1)", x.kinds(0, 1), NOTHING);
        noNotice(SIZE, 0, 0, 0, 0);
        noNotice(SIZE, 1, 0);
        noNotice(UNLIKE, 0, 0, 0);
        noNotice(UNLIKE, 10, 0, 0);
        noNotice(UNLIKE, 1, -10, 0);
        noNotice(UNLIKE, 1, 21, 0);
        noNotice(UNLIKE, 1, 0, 2);
        noNotice(UNLIKE, 1, 0, -1);
        noNotice(UNLIKE, 1, 0, 0, 1, 0, 1, 1, 0, 2);
    }

    private static void kindsByNotices() {
        fresh("30 kinds");
        house("a01 s055 c155 u255 q355 q455");
        row(2, 5, 0, 1);
        is("an uncle or a claque", x.kinds(0, 2), 8 | 32);
        row(2, 6, 0, 1);
        is("a claque with two others", x.kinds(0, 2), 32);
        is("a claque with one other", x.kinds(3, 2), 32);
        row(2, 7, 0, 1);
        is("seven by a claque with two others", x.kinds(0, 2), 32);
        is("not with one other", x.kinds(3, 2), 0);
        row(2, 2, 0, 0);
        is("something lacking", x.kinds(0, 2), 1 | 4 | 16);
        row(2, 2, 0, 1, 3, 0, 0);
        is("a clerk", x.kinds(0, 2), 2);
        is("asked() is not told", x.asked(), 0);
        x.call(4);
        row(2, 7, 0, 1);
        is("not with one other, too", x.kinds(0, 2), 0);
        row(2);
        is("no notices", x.kinds(0, 2), 63);
    }

    private static void whoItWas() {
        fresh("31 whom");
        is("whom(10)", x.whom(10), BAD);
        is("whom(-1)", x.whom(-1), BAD);
        is("whom(0) of no scene", x.whom(0), STATE);
        house(FIVE);
        tells("whom(0)", x.whom(0), 2, 3);
        tells("whom(1)", x.whom(1), 16, 3);
        tells("whom(2)", x.whom(2), 0, 3);
        tells("whom(3)", x.whom(3), 1, 3);
        x.call(1);
        tells("whom(1) then", x.whom(1), 1, 2);
        tells("whom(0) then", x.whom(0), 16, 2);
        house("a09 s000 s190 s209");
        tells("whom(9)", x.whom(9), 1 | 4, 2);
        house("a09 k000");
        tells("nobody can be called", x.whom(9), 0, 0);
        x.cut();
        is("behind all", x.whom(0), STATE);
    }

    private static void duels() {
        fresh("32 duel");
        is("duel(5)", x.duel(5), BAD);
        is("duel(-1)", x.duel(-1), BAD);
        is("duel(0) of nobody", x.duel(0), STATE);
        house(FIVE);
        is("duel(0)", x.duel(0), 0);
        is("duel(1)", x.duel(1), 1);
        is("duel(2)", x.duel(2), 2);
        house(THREE);
        is("the first wants many", x.duel(1), 1);
        is("the other one few", x.duel(2), 1);
        is("as many as there are", x.duel(4), 1);
        is("nothing is done", x.count(3), 0);
        x.call(1);
        is("the first one begins in any scene", x.duel(1), 0);
        house("a011s010");
        is("cut where there is none", x.duel(2), 1);
        x.cut();
        x.cut();
        is("behind all", x.duel(4), 0);
        house(PROMPTED);
        is("by prompts", x.duel(2), 1);
        house("a0111111 s010s110s210s310s410s510");
        is("no more than four", x.duel(4), 4);
    }

    private static void chances() {
        fresh("33 odds");
        is("odds(7)", x.odds(7), BAD);
        is("odds(-1)", x.odds(-1), BAD);
        is("odds(0) of nobody", x.odds(0), STATE);
        house(THREE);
        tellsFraction("odds(0)", x.odds(0), 1, 1);
        tellsFraction("odds(1)", x.odds(1), 2, 3);
        tellsFraction("odds(2)", x.odds(2), 1, 6);
        tellsFraction("odds(3)", x.odds(3), 0, 1);
        tellsFraction("odds(6)", x.odds(6), 0, 1);
        x.call(0);
        tellsFraction("odds(1) of scenes yet", x.odds(1), 1, 2);
        house("a011s010");
        tellsFraction("one for two scenes", x.odds(1), 1, 1);
        tellsFraction("two by one", x.odds(2), 0, 1);
        house(PROMPTED);
        tellsFraction("by prompts", x.odds(2), 1, 3);
        house("a01k010");
        tellsFraction("nobody", x.odds(0), 1, 1);
        tellsFraction("one by nobody", x.odds(1), 0, 1);
    }

    private static void means() {
        fresh("34 mid");
        is("of nobody", x.mid(), STATE);
        house(THREE);
        tellsFraction("mid()", x.mid(), 1, 2);
        house(PROMPTED);
        tellsFraction("by prompts", x.mid(), 2, 3);
        house("a02 s020 s110 s310 s410");
        tellsFraction("below 0", x.mid(), -1, 4);
        house("a02 s020 s110 s310");
        tellsFraction("0", x.mid(), 0, 1);
        house("a099 s000");
        tellsFraction("one for two scenes", x.mid(), -1, 1);
        x.call(0);
        x.cut();
        tellsFraction("behind all", x.mid(), -1, 1);
        house(FIVE);
        x.call(4);
        x.cut();
        x.cut();
        tellsFraction("applause so far", x.mid(), 1, 1);
        is("asked() is not told", x.asked(), 1);
    }

    private static void lotsOfNights() {
        fresh("35 lots");
        house(THREE);
        x.sitter(2, 2);
        is("lots(1)", x.lots(1), 1);
        is("deeds", x.count(3), 2);
        is("all over", x.count(2), 2);
        is("carried", x.count(6), 1);
        is("who is left", x.can(), 4);
        is("asked() is not told", x.asked(), 4);
        x.undo(0);
        is("the last seed", x.lots(2147483646), 2);
        x.undo(1);
        is("its first one", x.can(), 2 | 4);
        x.undo(0);
        x.call(0);
        is("carried in the lots alone", x.lots(1), 1);
        is("the second one by lot 6033 of two", x.can(), 2);
        house("a011s010");
        is("one for two scenes", x.lots(5), 1);
        is("the other one is cut", x.count(3), 2);
        is("all over", x.count(2), 2);
    }

    private static void lotsRefused() {
        fresh("35 lots, refused");
        is("lots(0)", x.lots(0), BAD);
        is("lots(-1)", x.lots(-1), BAD);
        is("lots(2147483647)", x.lots(Integer.MAX_VALUE), BAD);
        is("lots(1) of no scene", x.lots(1), STATE);
        house(THREE);
        changes(39);
        is("lots(1) with 39 deeds", x.lots(1), FULL);
        is("nothing is done", x.count(2), 0);
        is("lots(0) with 39 deeds", x.lots(0), BAD);
        x.undo(38);
        is("lots(1) with 38 deeds", x.lots(1), 1);
        is("deeds", x.count(3), 40);
        is("lots(1) behind all", x.lots(1), STATE);
    }
}
