/**
 * Promises 22 to 25 and 32 to 34 once more: what a call changes for the next one (APPLAUSE, PROMPTS, CLAQUES) counts
 * in each of these, behind one that is carried without and with a prompt and behind one that is not, and what was done
 * ahead counts, too.
 */
public final class SearchEdgesTest extends Bench {
    private static final String CALLED = "If that is no more than PROMPTS, so many of them are gone, SHAME is as much more,"
            + " APPLAUSE 2 more (if nothing is LACKING) or 1 more: it is CARRIED; else APPLAUSE is 1 less.";

    /** A house with two SCENES yet, and what is due of it. */
    private record Night(String house, int called, int[] plan, int carried, int applause, int best, int gone,
            int[] bestPlan, int least, int first, int ways2, int ways1, int duel, int[] odds2, int[] mid) { }

    private static final Night[] NIGHTS = {
        // The second one FEARS less behind the first one.
        new Night("a055 s050 s152", NONE, ints(0, 1), 2, 4, 2, 0, ints(0, 1), 0, 0, 1, 3, 2, ints(1, 2), ints(1, 1)),
        // A CLAQUE SAYS less when the other one was called.
        new Night("a055 q220 q120", NONE, ints(0, 1), 1, 1, 1, 0, ints(NONE, 0), 1, 0, 0, 6, 1, ints(0, 1), ints(1, 1)),
        // Behind one that isn't CARRIED the other one FEARS.
        new Night("a095 s050 s150", NONE, ints(0, 1), 0, -2, 1, 0, ints(NONE, 0), 4, 0, 0, 2, 0, ints(0, 1), ints(-2, 1)),
        // So many PROMPTS are gone.
        new Night("a233 s020 s110 s220", NONE, ints(0, 1), 1, 0, 2, 2, ints(0, 2), 2, 0, 2, 12, 1, ints(1, 3), ints(2, 3)),
        // APPLAUSE is 1 more, not 2, with a PROMPT.
        new Night("a155 s040 s151", NONE, ints(0, 1), 2, 3, 2, 1, ints(0, 1), 1, 0, 1, 6, 2, ints(1, 2), ints(3, 2)),
        new Night("a155 s040 s152", NONE, ints(0, 1), 1, 0, 1, 1, ints(NONE, 0), 2, 0, 0, 3, 1, ints(0, 1), ints(-1, 1)),
        // No PROMPTS are gone for one that isn't CARRIED.
        new Night("a295 s050 s150", NONE, ints(0, 1), 1, 0, 1, 0, ints(NONE, 0), 4, 0, 0, 4, 1, ints(0, 1), ints(0, 1)),
        // PROMPTS are gone ahead; so is one CALLED.
        new Night("a2556 s040 q220 q120", 0, ints(1, 2), 1, 2, 1, 0, ints(1, NONE), 2, 1, 0, 6, 1, ints(0, 1), ints(2, 1)),
        // APPLAUSE of one ahead.
        new Night("a0555 s050 s152 s253", 0, ints(1, 2), 2, 6, 2, 0, ints(1, 2), 0, 1, 1, 3, 2, ints(1, 2), ints(3, 1)),
        // A CLAQUE called ahead.
        new Night("a0144 q000 q120 s240", 0, ints(1, 2), 2, 6, 2, 0, ints(1, 2), 0, 1, 2, 6, 2, ints(1, 1), ints(6, 1)),
        new Night("a0155 q000 q120 s240", 0, ints(1, 2), 0, 0, 0, 0, ints(NONE, NONE), 2, 1, 0, 0, 0, ints(0, 1), ints(0, 1)),
    };

    public static void main(String[] args) {
        begin("SearchEdgesTest");
        for (Night night : NIGHTS) {
            plays(night);
            bests(night);
            leasts(night);
            ways(night);
            duels(night);
            chances(night);
            means(night);
        }
        end();
    }

    private static int[] ints(int... values) {
        return values;
    }

    private static void edge(int number, Night night) {
        edge(number, CALLED);
        house(night.house());
        if (night.called() != NONE) {
            due.holds(promise + ": one is called ahead", x.call(night.called()) >= 0);
        }
        promise += " in " + night.house();
    }

    private static void plays(Night night) {
        edge(22, night);
        row(0, night.plan());
        tells("play()", x.play(0), night.carried(), night.applause());
    }

    private static void bests(Night night) {
        edge(23, night);
        tells("best()", x.best(0), night.best(), night.gone());
        rowIs("best()", 0, night.bestPlan());
    }

    private static void leasts(Night night) {
        edge(24, night);
        tells("least()", x.least(), night.least(), night.first());
    }

    private static void ways(Night night) {
        edge(25, night);
        tellsFraction("ways(2)", x.ways(2), night.ways2(), 1);
        tellsFraction("ways(1)", x.ways(1), night.ways1(), 1);
    }

    private static void duels(Night night) {
        edge(32, night);
        is("duel(2)", x.duel(2), night.duel());
    }

    private static void chances(Night night) {
        edge(33, night);
        tellsFraction("odds(2)", x.odds(2), night.odds2()[0], night.odds2()[1]);
    }

    private static void means(Night night) {
        edge(34, night);
        tellsFraction("mid()", x.mid(), night.mid()[0], night.mid()[1]);
    }
}
