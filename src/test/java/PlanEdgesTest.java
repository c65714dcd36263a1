import java.util.Arrays;

/** Promises 22 to 28 at their boundaries: plans, whom to call, seats. */
public final class PlanEdgesTest extends Bench {
    /** Says 3, 7 (a clerk), can't (a critic in seat 2), can't (a coward in seat 7), 5; lines 6, 4, 1; 2 prompts. */
    private static final String FIVE = "a2641 s130 c050 k255 w709 s350";
    private static final String SIX_ALIKE = "a0111111 s090s190s290s390s490s590";

    public static void main(String[] args) {
        begin("PlanEdgesTest");
        playRows();
        playSizes();
        playUnlike();
        playRefusals();
        playApplause();
        bestRefused();
        bestRows();
        bestCarried();
        bestOfScenesYet();
        bestOrder();
        leastCalls();
        leastPrompts();
        leastNone();
        waysNumbers();
        waysCounted();
        waysCalled();
        seatsTold();
        seatsNone();
        beside();
        apart();
        end();
    }

    private static void play(int carried, int applause, int... plan) {
        row(0, plan);
        tells("play of " + Arrays.toString(plan), x.play(0), carried, applause);
    }

    private static void unlike(int... plan) {
        row(0, plan);
        finds("play of " + Arrays.toString(plan), UNLIKE, () -> x.play(0));
    }

    private static void playRows() {
        edge(22, "BAD; STATE: no SITTERS; NOTHING; SIZE: more than SCENES yet; UNLIKE. (In this order.)");
        x.row(0, 0);
        refuses("no SITTERS", STATE, () -> x.play(0));
        refuses("no SITTERS, a missing row", STATE, () -> x.play(1));
        refuses("no SITTERS, row -1", BAD, () -> x.play(-1));
        refuses("no SITTERS, row 6", BAD, () -> x.play(6));
        house(FIVE);
        x.row(5, 0);
        tells("row 0", x.play(0), 0, 0);
        tells("row 5", x.play(5), 0, 0);
        for (int r : new int[] {-1, 6, MIN, MAX}) {
            refuses("row " + r, BAD, () -> x.play(r));
        }
        finds("a missing row", NOTHING, () -> x.play(1));
        is("nothing is done", x.count(3), 0);
    }

    private static void playSizes() {
        edge(22, "SIZE: more than SCENES yet");
        house(FIVE);
        play(0, 0);
        play(3, 4, 4, 0, 1);
        row(0, 4, 0, 1, NONE);
        finds("one more than there are", SIZE, () -> x.play(0));
        x.row(0, 40);
        finds("40", SIZE, () -> x.play(0));
        x.cut();
        play(2, 3, 0, 4);
        row(0, 0, 4, NONE);
        finds("one more than there are yet", SIZE, () -> x.play(0));
        over(2);
        play(0, 0);
        row(0, NONE);
        finds("one behind all", SIZE, () -> x.play(0));
        house("a0111111 s090s190s290s390s490s590");
        play(6, 12, 5, 4, 3, 2, 1, 0);
        row(0, 0, 1, 2, 3, 4, 5, NONE);
        finds("seven of six", SIZE, () -> x.play(0));
    }

    private static void playUnlike() {
        edge(22, "3 UNLIKE (a SITTER of another KIND; a number that is none; one who can't be called)");
        house(FIVE);
        unlike(-1);
        unlike(5);
        unlike(-8);
        unlike(-10);
        unlike(MIN);
        unlike(MAX);
        unlike(32);
        unlike(2);
        unlike(3);
        unlike(0, 0);
        unlike(0, 1, 0);
        unlike(NONE, NONE, 5);
        play(0, -1, 0, NONE, NONE);
        play(1, 2, NONE, NONE, 4);
        play(0, 0, NONE);
        x.call(4);
        unlike(4);
        play(1, 2, 0);
        x.undo(0);
        play(1, 1, 4);
    }

    private static void playRefusals() {
        edge(22, "(In this order.)");
        house(FIVE);
        row(0, 9, 9, 9, 9);
        finds("SIZE comes ahead of UNLIKE", SIZE, () -> x.play(0));
        over(3);
        finds("NOTHING behind all SCENES", NOTHING, () -> x.play(1));
        row(0, 9);
        finds("SIZE comes ahead of UNLIKE behind all", SIZE, () -> x.play(0));
    }

    private static void playApplause() {
        edge(22, "APPLAUSE then by asked()");
        house("a0999999 s000s100s200s300s400s500");
        play(0, 0, NONE, NONE, NONE, NONE, NONE, NONE);
        play(0, -6, 0, 1, 2, 3, 4, 5);
        x.call(3);
        play(0, -1);
        play(0, -6, 0, 1, 2, 4, 5);
        house(SIX_ALIKE);
        play(6, 12, 0, 1, 2, 3, 4, 5);
        x.call(0);
        play(0, 2);
        play(1, 4, 1);
        is("no APPLAUSE by it", x.applause(), 1002);

        edge(22, "or the first part of one");
        house("a233 s020 s110 s220");
        play(1, 1, 0);
        play(2, 2, 0, 2);
        play(1, 0, 0, 1);
        play(1, 1, NONE, 0);
    }

    private static void best(String house, int carried, int gone, int... plan) {
        house(house);
        tells("best of " + house, x.best(3), carried, gone);
        rowIs("best of " + house, 3, plan);
        is("nothing is done", x.count(3), 0);
    }

    private static void bestRefused() {
        edge(23, "BAD; STATE: no SITTERS.");
        row(0, 7);
        refuses("no SITTERS", STATE, () -> x.best(0));
        refuses("no SITTERS, a missing row", STATE, () -> x.best(5));
        refuses("BAD comes ahead of STATE below", BAD, () -> x.best(-1));
        refuses("BAD comes ahead of STATE above", BAD, () -> x.best(6));
        rowIs("the row stays", 0, 7);
        house("a01s010");
        tells("row 0", x.best(0), 1, 0);
        tells("row 5", x.best(5), 1, 0);
        rowIs("row 5", 5, 0);
        for (int r : new int[] {-1, 6, MIN, MAX}) {
            refuses("row " + r, BAD, () -> x.best(r));
        }
    }

    private static void bestRows() {
        edge(23, "comes to a ROW (anew)");
        house(SIX_ALIKE);
        x.row(0, 40);
        is("over a row of 40", x.best(0), 6);
        rowIs("over a row of 40", 0, 0, 1, 2, 3, 4, 5);
        is("to a missing row", x.best(1), 6);
        is("rows", x.count(8), 2);
        over(5);
        is("over a row of six", x.best(0), 1);
        rowIs("over a row of six", 0, 0);
        over(1);
        tells("behind all SCENES", x.best(0), 0, 0);
        rowIs("without places", 0);
        tells("to a missing row, behind all", x.best(2), 0, 0);
        rowIs("without places, too", 2);
    }

    private static void bestCarried() {
        edge(23, "The most SCENES CARRIED by a PLAN");
        best("a09 s080", 0, 0, NONE);
        best("a09 s090", 1, 0, 0);
        best("a19 s080", 1, 1, 0);
        best("a19 s070", 0, 0, NONE);
        best("a99 s000", 1, 9, 0);
        best("a89 s000", 0, 0, NONE);
        best("a01 k090", 0, 0, NONE);
        best("a01 w790", 0, 0, NONE);
        best("a01 w690", 1, 0, 0);
        best("a01111 s090", 1, 0, NONE, NONE, NONE, 0);
        best(SIX_ALIKE, 6, 0, 0, 1, 2, 3, 4, 5);
        best("a0999999 s000s100s200s300s400s500", 0, 0, NONE, NONE, NONE, NONE, NONE, NONE);
        best("a466 s130 s350", 2, 4, 0, 1);
        best("a366 s130 s350", 1, 1, NONE, 1);
        best("a014 s010 s153", 2, 0, 0, 1);
    }

    private static void bestOfScenesYet() {
        edge(23, "A PLAN is, for each SCENE yet, one who CAN be called then, or a cut.");
        house("a119 s010 s180");
        over(1);
        tells("a SCENE that is over carries nobody", x.best(0), 1, 1);
        rowIs("a SCENE that is over carries nobody", 0, 1);
        house("a091 s090 s190 s200");
        x.call(0);
        tells("one who was called is not called again", x.best(0), 1, 0);
        rowIs("one who was called is not called again", 0, 1);
    }

    private static void bestOrder() {
        edge(23, "that one, of fewest PROMPTS gone (the first of these)");
        best("a93 s010 s130 s220", 1, 0, 1);
        best("a93 s010 s120 s220", 1, 1, 1);
        best("a93 s000 s130 s230", 1, 0, 1);
        best("a933 s010 s130 s220", 2, 1, 1, 2);
        edge(23, "PLANS go by cuts, then SITTERS' numbers, SCENE by SCENE, the first ones first.");
        best("a044 s040", 1, 0, NONE, 0);
        best("a0444 s040 s140", 2, 0, NONE, 0, 1);
        best("a044 s040 s140 s240", 2, 0, 0, 1);
        best("a024 s040 s140 s230", 2, 0, 0, 1);
        best("a042 s040 s140 s230", 2, 0, 0, 1);
        best("a042 s030 s140 s240", 2, 0, 1, 0);
        best("a0494 s040 s140", 2, 0, 0, NONE, 1);
    }

    private static void leastCalls() {
        edge(24, "the first one to be called by asked() (of the first such PLAN; NONE: no SCENE)");
        house("a064 s130 s250");
        tells("not the first SITTER", x.least(), 2, 1);
        house("a064 s130 s230");
        tells("the first of two alike", x.least(), 4, 0);
        house(SIX_ALIKE);
        x.call(0);
        tells("the first who CAN be called", x.least(), 0, 1);
        over(4);
        tells("the last SCENE", x.least(), 0, 1);
        over(1);
        tells("no SCENE", x.least(), 0, NONE);
        house("a01 k000");
        over(1);
        tells("no SCENE, and nobody who can", x.least(), 0, NONE);
    }

    private static void leastPrompts() {
        edge(24, "The fewest PROMPTS that would have to be there now so that all SCENES yet can be CARRIED, none cut");
        house("a09 s090");
        tells("none", x.least(), 0, 0);
        house("a09 s080");
        tells("one", x.least(), 1, 0);
        house("a99 s080");
        tells("those that are there do not count", x.least(), 1, 0);
        house("a0999999 s000s100s200s300s400s500");
        tells("more than there can be", x.least(), 54, 0);
        house("a03 s010 s120");
        tells("the fewest, not the first", x.least(), 1, 1);
        house("a014 s010 s153");
        tells("by APPLAUSE of one who lacks nothing", x.least(), 0, 0);
        house("a024 s010 s153");
        tells("by APPLAUSE of one who is prompted", x.least(), 2, 0);
        is("no PROMPTS by it", x.count(4), 0);
        is("no DEEDS by it", x.count(3), 0);
    }

    private static void leastNone() {
        edge(24, "NONE: too few CAN be called. STATE: no SITTERS.");
        refuses("no SITTERS", STATE, () -> x.least());
        house("a011 s010 s110");
        is("as many as SCENES", x.least(), 0);
        x.sitter(1, 2);
        house("a0111 s010 s110");
        refuses("one fewer than SCENES", NONE, () -> x.least());
        over(1);
        tells("as many as SCENES yet", x.least(), 0, 0);
        house("a011 s010 k210 w790");
        refuses("too few in good SEATS", NONE, () -> x.least());
        x.change(0, 1);
        refuses("too few in good SEATS still", NONE, () -> x.least());
        x.change(0, 2);
        tells("as many in good SEATS", x.least(), 0, 0);
        house("a01 k090");
        refuses("one SCENE, none who can", NONE, () -> x.least());
        house("a011 s010 s110");
        x.call(0);
        is("as many by calls", x.least(), 0);
        house("a0111 s010 s110");
        x.call(0);
        refuses("too few by calls", NONE, () -> x.least());
    }

    private static void ways(int n, long ways, int called) {
        tellsFraction("ways(" + n + ")", x.ways(n), ways, 1);
        is("ways(" + n + ") asked()", x.asked(), called);
    }

    private static void waysNumbers() {
        edge(25, "BAD; STATE: no SITTERS.");
        refuses("no SITTERS", STATE, () -> x.ways(0));
        refuses("no SITTERS, six SCENES", STATE, () -> x.ways(6));
        refuses("BAD comes ahead of STATE below", BAD, () -> x.ways(-1));
        refuses("BAD comes ahead of STATE above", BAD, () -> x.ways(7));
        house("a01s010");
        ways(0, 2, 0);
        ways(6, 0, 0);
        for (int n : new int[] {-1, 7, MIN, MAX}) {
            refuses("ways(" + n + ")", BAD, () -> x.ways(n));
        }
    }

    private static void waysCounted() {
        edge(25, "By how many PLANS n (0 .. 6) SCENES or more are CARRIED, told by upper() (lower() is 1)");
        house("a064 s130 s250");
        x.mid();
        ways(0, 7, 0);
        ways(1, 2, 2);
        ways(2, 0, 0);
        house(SIX_ALIKE);
        ways(0, 13327, 0);
        ways(1, 13326, 0);
        ways(5, 5040, 0);
        ways(6, 720, 63);
        over(6);
        ways(0, 1, 0);
        ways(1, 0, 0);
        house("a01 k090");
        ways(0, 1, 0);
        ways(1, 0, 0);
        house("a02 s010");
        ways(0, 2, 0);
        ways(1, 0, 0);
    }

    private static void waysCalled() {
        edge(25, "SITTERS called in all of these by asked() (bits; 0: there are none)");
        house("a011 s010 s110");
        ways(2, 2, 3);
        ways(1, 6, 0);
        house("a02 s010 s120");
        ways(1, 1, 2);
        ways(2, 0, 0);
        // Behind the one who fails the other one fears, and fails, too.
        house("a022 s010 s120");
        ways(1, 3, 2);
        house("a011 s010 s110");
        x.call(0);
        ways(1, 1, 2);
        ways(0, 2, 0);
    }

    private static void seatsTold() {
        edge(26, "(10 times the lesser number and the other one; the first); how many by asked()");
        house("a05 k060 s110");
        tells("the two first ones", x.seats(), 1, 1);
        house("a05 s100 s200 s300 s400 k060 s510");
        tells("the first pair that does", x.seats(), 4, 1);
        house("a05 s000 s200 s400 s600 k860 s910");
        tells("the two last ones", x.seats(), 45, 1);
        house("a05 w960 s010 s110");
        tells("a COWARD, the first of two", x.seats(), 1, 1);
        house("a05 k060 s110 s310");
        tells("the first of two", x.seats(), 1, 1);
        house("a055 s110 k260 w970 k460 w870 s600");
        tells("more than the first pair would", x.seats(), 12, 2);
        tells("SEATS stay", x.sitter(1, 1), 1, 2);
        is("no DEEDS", x.count(3), 0);
        house("a055 k050 w750");
        tells("nobody CAN be called as it is, both then", x.seats(), 1, 2);
    }

    private static void seatsNone() {
        edge(26, "NONE: no more by any than as it is. STATE: no SITTERS.");
        refuses("no SITTERS", STATE, () -> x.seats());
        house("a05 s060");
        refuses("one SITTER", NONE, () -> x.seats());
        house("a05 k060");
        refuses("a CRITIC alone", NONE, () -> x.seats());
        house("a05 k060 s210");
        refuses("no SEAT of an odd number", NONE, () -> x.seats());
        house("a05 k060 s150");
        refuses("as many as it is", NONE, () -> x.seats());
        house("a05 k040 s110");
        refuses("none, either way", NONE, () -> x.seats());
        house("a05 k060 s110");
        over(1);
        refuses("no SCENE", NONE, () -> x.seats());
        house("a055 k060 s110");
        x.call(1);
        tells("one who was called changes, too", x.seats(), 1, 1);
        x.undo(0);
        x.change(0, 1);
        refuses("changed", NONE, () -> x.seats());
        x.change(0, 1);
        changes(38);
        tells("among 40 DEEDS", x.seats(), 1, 1);
    }

    private static void beside() {
        edge(27, "How many pairs sit beside each other (SEATS 1 apart); the longest row of such by asked()"
                + " (how many SITTERS; 1 alone). STATE: no SITTERS.");
        refuses("no SITTERS", STATE, () -> x.beside());
        house("a01s000");
        tells("one alone", x.beside(), 0, 1);
        house("a01s900");
        tells("one alone in the last SEAT", x.beside(), 0, 1);
        house("a01s900s000");
        tells("the last SEAT and the first one", x.beside(), 0, 1);
        house("a01s000s200s400s600s800");
        tells("two apart", x.beside(), 0, 1);
        house("a01s000s100");
        tells("the first two SEATS", x.beside(), 1, 2);
        house("a01s900s800");
        tells("the last two SEATS", x.beside(), 1, 2);
        house("a01s000s100s800s900s400");
        tells("two pairs apart", x.beside(), 2, 2);
        house("a01s000s100s200s700s800s900");
        tells("three and three", x.beside(), 4, 3);
        house("a01s000s100s700s800s900");
        tells("the longer one last", x.beside(), 3, 3);
        house("a01s000s100s200s800s900");
        tells("the longer one first", x.beside(), 3, 3);
        house("a01s400s500s600s700s800s900");
        tells("six in a row", x.beside(), 5, 6);
        house("a01s000s100s900");
        x.change(0, 2);
        tells("by a change", x.beside(), 1, 2);
        x.call(1);
        tells("with one of the two called", x.beside(), 1, 2);
    }

    private static void apart() {
        edge(28, "The fewest SITTERS to be sent home so that none sits beside another one; who by asked()"
                + " (bits; the least number). STATE: no SITTERS.");
        refuses("no SITTERS", STATE, () -> x.apart());
        house("a01s000");
        tells("one alone", x.apart(), 0, 0);
        house("a01s900s000");
        tells("the last SEAT and the first one", x.apart(), 0, 0);
        house("a01s000s200s400s600s800");
        tells("two apart", x.apart(), 0, 0);
        house("a01s000s100");
        tells("either of two", x.apart(), 1, 1);
        house("a01s900s800");
        tells("either of the last two SEATS", x.apart(), 1, 1);
        house("a01s000s200s100");
        tells("the one between", x.apart(), 1, 4);
        house("a01s000s100s200s300s400s500");
        tells("six in a row", x.apart(), 3, 21);
        house("a01s000s100s200s300s400s700");
        tells("five in a row", x.apart(), 2, 10);
        house("a01s500s400s300s900s800");
        tells("three and two", x.apart(), 2, 10);
        house("a01s500s300s400s900s800s000");
        tells("the lesser number of those", x.apart(), 2, 12);
        x.call(2);
        tells("whoever was called", x.apart(), 2, 12);
        x.change(2, 5);
        tells("by a change", x.apart(), 2, 40);
        is("nobody is sent home", x.count(0), 6);
    }
}
