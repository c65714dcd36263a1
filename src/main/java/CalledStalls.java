import java.util.Arrays;

/**
 * A theatre whose players are called up from the stalls: a house of scenes and sitters is read from a small text,
 * played by deeds that can be undone, and asked what could come of it. README.md tells how it is used.
 *
 * All arrays are made once, by the constructor: no call makes an object.
 */
public final class CalledStalls {
    public static final int BAD = -1, FULL = -2, FINDING = -3, STATE = -4, SPENT = -6, NONE = -9;

    private static final int NOTHING = 1, BEYOND = 2, UNLIKE = 3, NOUGHT = 4, SIZE = 5;
    private static final int SITTER = 0, CLERK = 1, CRITIC = 2, UNCLE = 3, COWARD = 4, CLAQUE = 5;
    private static final int KINDS = 6;

    private static final int ROWS = 6, ROW_MOST = 40;
    private static final int TEXTS = 4, TEXT_MOST = 60, BLANK = 32;
    private static final int KEPT = 3, DEEDS_MOST = 40;
    private static final int SITTERS_MOST = 6, SCENES_MOST = 6, DUEL_MOST = 4;
    private static final int FIGURE_MOST = 9, EXIT_SEAT = 7;
    private static final int WHATS_OF_SITTER = 8, WHATS_OF_COUNT = 11;
    private static final int APPLAUSE_LEAST = -9, APPLAUSE_MOST = 20, APPLAUSE_ADDED = 1000;
    private static final int LOT_FACTOR = 48271, LOT_MODULUS = 2147483647;

    private final Shelf rowShelf;
    private final Shelf textShelf;
    /** A kept house is its deeds alone: house() lets all of them go, so they are always deeds of the present script. */
    private final Shelf keptShelf;
    private final Script draft;
    private final Script script;
    private final Night night;
    private final Search search;
    private final int[] foundTimes;
    private int lastFinding;
    private int lastTold;
    private long upperTold;
    private long lowerTold;

    public CalledStalls() {
        rowShelf = new Shelf(ROWS, ROW_MOST);
        textShelf = new Shelf(TEXTS, TEXT_MOST);
        keptShelf = new Shelf(KEPT, DEEDS_MOST);
        draft = new Script();
        script = new Script();
        night = new Night(script);
        search = new Search(night);
        foundTimes = new int[SIZE + 1];
        lowerTold = 1;
    }

    // ---- rows, texts, houses

    public int row(int r, int n) {
        if (!rowShelf.isPlace(r) || n > ROW_MOST) {
            return BAD;
        }
        if (n < 0) {
            return refuse(SIZE);
        }
        rowShelf.make(r, n, 0);
        return n;
    }

    public int lay(int r, int i, int v) {
        int refusal = refusalOfItem(rowShelf, r, i);
        if (refusal != 0) {
            return refusal;
        }
        int old = rowShelf.get(r, i);
        rowShelf.set(r, i, v);
        return tell(old);
    }

    public int at(int r, int i) {
        int refusal = refusalOfItem(rowShelf, r, i);
        return refusal != 0 ? refusal : tell(rowShelf.get(r, i));
    }

    public int tear(int r) {
        int refusal = refusalOfPlace(rowShelf, r);
        if (refusal != 0) {
            return refusal;
        }
        rowShelf.drop(r);
        return 1;
    }

    public int copy(int r, int i, int to, int j, int n) {
        if (!rowShelf.isPlace(r) || !rowShelf.isPlace(to)) {
            return BAD;
        }
        if (n < 0) {
            return refuse(SIZE);
        }
        if (!rowShelf.has(r) || !rowShelf.has(to)) {
            return refuse(NOTHING);
        }
        if (!rowShelf.holdsPart(r, i, n) || !rowShelf.holdsPart(to, j, n)) {
            return refuse(BEYOND);
        }
        rowShelf.copyPart(r, i, to, j, n);
        return 1;
    }

    public int mean(int r) {
        int refusal = refusalOfPlace(rowShelf, r);
        if (refusal != 0) {
            return refusal;
        }
        int n = rowShelf.size(r);
        if (n <= 0) {
            return refuse(NOUGHT);
        }
        // 40 ints can add up to more than an int holds.
        long sum = 0;
        for (int i = 0; i < n; i++) {
            sum += rowShelf.get(r, i);
        }
        return tell((int) (sum / n));
    }

    public int text(int t, int n) {
        if (!textShelf.isPlace(t) || n > TEXT_MOST) {
            return BAD;
        }
        if (n < 0) {
            return refuse(SIZE);
        }
        textShelf.make(t, n, BLANK);
        return n;
    }

    public int put(int t, int i, int v) {
        int refusal = refusalOfItem(textShelf, t, i);
        if (refusal != 0) {
            return refusal;
        }
        int old = textShelf.get(t, i);
        textShelf.set(t, i, (byte) v);
        return old + 1000;
    }

    public int fault(int t) {
        int refusal = refusalOfPlace(textShelf, t);
        return refusal != 0 ? refusal : draft.read(textShelf, t);
    }

    public int house(int t) {
        int refusal = refusalOfPlace(textShelf, t);
        if (refusal != 0) {
            return refusal;
        }
        // Read aside first: a text with a fault must leave the present house as it is.
        if (draft.read(textShelf, t) != NONE) {
            return STATE;
        }
        script.read(textShelf, t);
        night.begin();
        for (int k = 0; k < KEPT; k++) {
            keptShelf.drop(k);
        }
        return script.sitterCount;
    }

    public int sitter(int i, int what) {
        if (!script.isSitter(i) || what < 0 || what >= WHATS_OF_SITTER) {
            return BAD;
        }
        return tell(night.whatOfSitter(i, what));
    }

    public int mark(int i, int kind) {
        if (!script.isSitter(i) || kind <= SITTER || kind >= KINDS) {
            return BAD;
        }
        return isOfKind(script.kind[i], kind) ? night.markOf(i, kind) : refuse(UNLIKE);
    }

    public int lines(int scene) {
        return scene < 0 || scene >= script.sceneCount ? BAD : script.lineCount[scene];
    }

    // ---- deeds

    public int call(int i) {
        if (!script.isSitter(i)) {
            return BAD;
        }
        if (night.scenesYet() == 0 || !isIn(night.free(), i)) {
            return STATE;
        }
        if (night.deedCount >= DEEDS_MOST) {
            return FULL;
        }
        int lacking = night.lackingNow(i);
        int before = night.carriedCount;
        night.perform(i);
        tell(lacking);
        return night.carriedCount - before;
    }

    public int cut() {
        if (night.scenesYet() == 0) {
            return STATE;
        }
        if (night.deedCount >= DEEDS_MOST) {
            return FULL;
        }
        night.perform(NONE);
        return night.scene;
    }

    public int change(int i, int j) {
        if (!script.isSitter(i) || !script.isSitter(j) || i == j) {
            return BAD;
        }
        if (night.deedCount >= DEEDS_MOST) {
            return FULL;
        }
        night.perform(Night.deedOfChange(i, j));
        return Integer.bitCount(night.free());
    }

    public int undo(int n) {
        int there = night.deedCount;
        if (n < 0 || n > there) {
            return BAD;
        }
        // Deeds always lead to the same night: the first n of them done anew are the rest of them undone.
        night.begin();
        for (int d = 0; d < n && d < DEEDS_MOST; d++) {
            night.perform(night.deeds[d]);
        }
        return there - n;
    }

    public int keep(int k) {
        if (!keptShelf.isPlace(k)) {
            return BAD;
        }
        if (script.sitterCount == 0) {
            return STATE;
        }
        keptShelf.make(k, night.deedCount, 0);
        for (int d = 0; d < night.deedCount; d++) {
            keptShelf.set(k, d, night.deeds[d]);
        }
        return night.deedCount;
    }

    public int on(int k) {
        int refusal = refusalOfPlace(keptShelf, k);
        if (refusal != 0) {
            return refusal;
        }
        night.begin();
        for (int d = 0; d < keptShelf.size(k); d++) {
            night.perform(keptShelf.get(k, d));
        }
        return night.deedCount;
    }

    // ---- whom to call

    public int can() {
        return night.free();
    }

    public int play(int r) {
        if (!rowShelf.isPlace(r)) {
            return BAD;
        }
        if (script.sitterCount == 0) {
            return STATE;
        }
        if (!rowShelf.has(r)) {
            return refuse(NOTHING);
        }
        if (rowShelf.size(r) > night.scenesYet()) {
            return refuse(SIZE);
        }
        if (!isPlan(r)) {
            return refuse(UNLIKE);
        }
        int carried = search.playPlan(rowShelf, r);
        tell(search.applauseBehind);
        return carried;
    }

    public int best(int r) {
        if (!rowShelf.isPlace(r)) {
            return BAD;
        }
        if (script.sitterCount == 0) {
            return STATE;
        }
        int carried = search.findMost(night.allowed(), 0);
        search.findFirstOfMost();
        int n = night.scenesYet();
        rowShelf.make(r, n, NONE);
        for (int k = 0; k < n; k++) {
            rowShelf.set(r, k, search.choiceFor(night.scene + k));
        }
        tell(search.fewestGone);
        return carried;
    }

    public int least() {
        if (script.sitterCount == 0) {
            return STATE;
        }
        if (Integer.bitCount(night.free()) < night.scenesYet()) {
            return NONE;
        }
        int prompts = search.findLeast();
        tell(search.firstCalled);
        return prompts;
    }

    public int ways(int n) {
        if (n < 0 || n > SCENES_MOST) {
            return BAD;
        }
        if (script.sitterCount == 0) {
            return STATE;
        }
        search.findWays(n);
        tellFraction(search.wayCount, 1);
        return tell(search.calledInAll);
    }

    // ---- seats

    public int seats() {
        if (script.sitterCount == 0) {
            return STATE;
        }
        int allowedNow = night.allowed();
        int most = search.findMost(allowedNow, 0);
        int pair = NONE;
        for (int i = 0; i < script.sitterCount; i++) {
            for (int j = i + 1; j < script.sitterCount; j++) {
                int allowedThen = night.allowedIfChanged(i, j);
                // Seats tell only who can be called: without anybody new no plan is new.
                int carried = (allowedThen & ~allowedNow) == 0 ? 0 : search.findMost(allowedThen, most);
                if (carried > most) {
                    most = carried;
                    pair = 10 * i + j;
                }
            }
        }
        if (pair != NONE) {
            tell(most);
        }
        return pair;
    }

    public int beside() {
        if (script.sitterCount == 0) {
            return STATE;
        }
        int taken = night.takenSeats();
        int longest = 0;
        int together = 0;
        for (int seat = 0; seat <= FIGURE_MOST; seat++) {
            together = isIn(taken, seat) ? together + 1 : 0;
            longest = Math.max(longest, together);
        }
        tell(longest);
        return Integer.bitCount(taken & (taken << 1));
    }

    public int apart() {
        if (script.sitterCount == 0) {
            return STATE;
        }
        int fewest = script.sitterCount;
        int who = (1 << script.sitterCount) - 1;
        for (int home = 0; home < (1 << script.sitterCount); home++) {
            int taken = night.takenSeatsWithout(home);
            if (Integer.bitCount(home) < fewest && (taken & (taken << 1)) == 0) {
                fewest = Integer.bitCount(home);
                who = home;
            }
        }
        tell(who);
        return fewest;
    }

    // ---- notices

    public int frights(int i, int r) {
        int refusal = refusalOfNotices(i, r);
        if (refusal != 0) {
            return refusal;
        }
        int kind = script.kind[i];
        int claques = script.otherClaques(i, night.called);
        int frightBits = 0;
        int memoryBits = 0;
        for (int v = 0; v <= FIGURE_MOST; v++) {
            if (fitsNotices(r, kind, script.memory[i], v, claques)) {
                frightBits |= 1 << v;
            }
            if (fitsNotices(r, kind, v, script.fright[i], claques)) {
                memoryBits |= 1 << v;
            }
        }
        tell(memoryBits);
        return frightBits;
    }

    public int kinds(int i, int r) {
        int refusal = refusalOfNotices(i, r);
        if (refusal != 0) {
            return refusal;
        }
        int claques = script.otherClaques(i, night.called);
        int kindBits = 0;
        for (int kind = SITTER; kind < KINDS; kind++) {
            if (fitsNotices(r, kind, script.memory[i], script.fright[i], claques)) {
                kindBits |= 1 << kind;
            }
        }
        return kindBits;
    }

    public int whom(int lacking) {
        if (lacking < 0 || lacking > FIGURE_MOST) {
            return BAD;
        }
        if (night.scenesYet() == 0) {
            return STATE;
        }
        int free = night.free();
        int who = 0;
        int answers = 0;
        for (int i = 0; i < script.sitterCount; i++) {
            if (isIn(free, i)) {
                int lackingThen = night.lackingNow(i);
                answers |= 1 << lackingThen;
                who |= lackingThen == lacking ? 1 << i : 0;
            }
        }
        tell(Integer.bitCount(answers));
        return who;
    }

    // ---- by turns, chances, lots

    public int duel(int n) {
        if (n < 0 || n > DUEL_MOST) {
            return BAD;
        }
        return script.sitterCount == 0 ? STATE : search.findDuel(Math.min(n, night.scenesYet()));
    }

    public int odds(int n) {
        if (n < 0 || n > SCENES_MOST) {
            return BAD;
        }
        if (script.sitterCount == 0) {
            return STATE;
        }
        search.findDraws(n);
        tellFraction(search.drawsCarried, search.draws);
        return 1;
    }

    public int mid() {
        if (script.sitterCount == 0) {
            return STATE;
        }
        search.findDraws(0);
        tellFraction(search.drawsApplause, search.draws);
        return 1;
    }

    public int lots(int seed) {
        if (seed < 1 || seed >= LOT_MODULUS) {
            return BAD;
        }
        int yet = night.scenesYet();
        if (yet == 0) {
            return STATE;
        }
        if (night.deedCount + yet > DEEDS_MOST) {
            return FULL;
        }
        int before = night.carriedCount;
        long lot = seed;
        for (int k = 0; k < yet; k++) {
            lot = lot * LOT_FACTOR % LOT_MODULUS;
            night.perform(drawn(night.free(), (int) (lot / 8)));
        }
        return night.carriedCount - before;
    }

    // ---- what is told

    public int asked() {
        return lastTold;
    }

    public long upper() {
        return upperTold;
    }

    public long lower() {
        return lowerTold;
    }

    public int count(int what) {
        return what < 0 || what >= WHATS_OF_COUNT ? BAD : countOf(what);
    }

    public int applause() {
        return night.clapping + APPLAUSE_ADDED;
    }

    public int finding() {
        return lastFinding;
    }

    public int findings(int f) {
        return f < NOTHING || f > SIZE ? BAD : foundTimes[f];
    }

    public long digest() {
        long h = 17;
        for (int what = 0; what < WHATS_OF_COUNT; what++) {
            h = 31 * h + countOf(what);
        }
        h = 31 * h + night.clapping + APPLAUSE_ADDED;
        for (int s = 0; s < script.sceneCount; s++) {
            h = 31 * h + script.lineCount[s];
        }
        for (int i = 0; i < script.sitterCount; i++) {
            for (int what = 0; what < WHATS_OF_SITTER; what++) {
                h = 31 * h + night.whatOfSitter(i, what);
            }
        }
        for (int k = 0; k < KEPT; k++) {
            h = 31 * h + keptShelf.size(k);
        }
        return textShelf.digestFrom(rowShelf.digestFrom(h));
    }

    // ---- telling and refusing

    private int tell(int v) {
        lastTold = v;
        return 1;
    }

    private void tellFraction(long upperNumber, long lowerNumber) {
        long divisor = greatestDivisor(Math.abs(upperNumber), lowerNumber);
        if (divisor > 0) {
            upperTold = upperNumber / divisor;
            lowerTold = lowerNumber / divisor;
        }
    }

    private static long greatestDivisor(long a, long b) {
        long greater = a;
        long rest = b;
        // Euclid's steps over longs are fewer than a hundred.
        for (int step = 0; step < 100 && rest != 0; step++) {
            long next = greater % rest;
            greater = rest;
            rest = next;
        }
        return greater;
    }

    private int refuse(int finding) {
        lastFinding = finding;
        if (finding >= 0 && finding < foundTimes.length) {
            foundTimes[finding]++;
        }
        return FINDING;
    }

    /** 0 if the row (text, kept house) is there; the answer of the refusal if not. */
    private int refusalOfPlace(Shelf shelf, int p) {
        if (!shelf.isPlace(p)) {
            return BAD;
        }
        return shelf.has(p) ? 0 : refuse(NOTHING);
    }

    private int refusalOfItem(Shelf shelf, int p, int i) {
        int refusal = refusalOfPlace(shelf, p);
        if (refusal != 0) {
            return refusal;
        }
        return shelf.holds(p, i) ? 0 : refuse(BEYOND);
    }

    private int refusalOfNotices(int i, int r) {
        if (!script.isSitter(i) || !rowShelf.isPlace(r)) {
            return BAD;
        }
        if (!rowShelf.has(r)) {
            return refuse(NOTHING);
        }
        if (rowShelf.size(r) % 3 != 0) {
            return refuse(SIZE);
        }
        return areNotices(r) ? 0 : refuse(UNLIKE);
    }

    private int countOf(int what) {
        switch (what) {
            case 0: return script.sitterCount;
            case 1: return script.sceneCount;
            case 2: return night.scene;
            case 3: return night.deedCount;
            case 4: return night.promptsLeft;
            case 5: return night.shame;
            case 6: return night.carriedCount;
            case 7: return script.clerkCount();
            case 8: return rowShelf.thereCount();
            case 9: return textShelf.thereCount();
            default: return keptShelf.thereCount();
        }
    }

    // ---- rows that are plans or notices

    private boolean isPlan(int r) {
        int free = night.free();
        for (int k = 0; k < rowShelf.size(r); k++) {
            int choice = rowShelf.get(r, k);
            if (choice != NONE) {
                if (!script.isSitter(choice) || !isIn(free, choice)) {
                    return false;
                }
                free &= ~(1 << choice);
            }
        }
        return true;
    }

    private boolean areNotices(int r) {
        for (int k = 0; k + 2 < rowShelf.size(r); k += 3) {
            int lineNumber = rowShelf.get(r, k);
            int applauseAhead = rowShelf.get(r, k + 1);
            int nothingLacking = rowShelf.get(r, k + 2);
            if (lineNumber < 1 || lineNumber > FIGURE_MOST
                    || applauseAhead < APPLAUSE_LEAST || applauseAhead > APPLAUSE_MOST
                    || nothingLacking < 0 || nothingLacking > 1) {
                return false;
            }
        }
        return true;
    }

    private boolean fitsNotices(int r, int kind, int memory, int fright, int claques) {
        for (int k = 0; k + 2 < rowShelf.size(r); k += 3) {
            int said = says(kind, memory, fright, rowShelf.get(r, k + 1), claques);
            boolean nothingLacking = said >= rowShelf.get(r, k);
            if (nothingLacking != (rowShelf.get(r, k + 2) == 1)) {
                return false;
            }
        }
        return true;
    }

    // ---- kinds and what they say

    private static boolean isIn(int bits, int i) {
        return i >= 0 && i < 32 && (bits >> i & 1) != 0;
    }

    private static boolean isOfKind(int kind, int wanted) {
        switch (wanted) {
            case SITTER: return true;
            case CLERK: return kind == CLERK || kind == UNCLE || kind == CLAQUE;
            case UNCLE: return kind == UNCLE || kind == CLAQUE;
            default: return kind == wanted;
        }
    }

    private static boolean isCallableFrom(int kind, int seat) {
        switch (kind) {
            case CRITIC: return seat % 2 == 1;
            case COWARD: return seat < EXIT_SEAT;
            default: return true;
        }
    }

    private static int fears(int kind, int fright, int applauseAhead) {
        int whole = Math.max(0, fright - applauseAhead);
        return isOfKind(kind, UNCLE) ? whole / 2 : whole;
    }

    private static int says(int kind, int memory, int fright, int applauseAhead, int claques) {
        int said = Math.max(0, memory - fears(kind, fright, applauseAhead));
        if (isOfKind(kind, CLERK)) {
            said += 2;
        }
        return kind == CLAQUE ? said + claques : said;
    }

    /** Of those in the bits, by numbers, the one that the lot tells; NONE if there is none. */
    private static int drawn(int bits, int lot) {
        int n = Integer.bitCount(bits);
        if (n == 0) {
            return NONE;
        }
        int ahead = Math.floorMod(lot, n);
        for (int i = 0; i < SITTERS_MOST; i++) {
            if (isIn(bits, i)) {
                if (ahead == 0) {
                    return i;
                }
                ahead--;
            }
        }
        return NONE;
    }

    /** Numbered places, in each of which a row of numbers is there or missing. */
    private static final class Shelf {
        private static final int MISSING = -1;

        private final int[][] items;
        private final int[] sizes;

        Shelf(int places, int most) {
            items = new int[places][most];
            sizes = new int[places];
            Arrays.fill(sizes, MISSING);
        }

        boolean isPlace(int p) {
            return p >= 0 && p < sizes.length;
        }

        boolean has(int p) {
            return size(p) != MISSING;
        }

        int size(int p) {
            return isPlace(p) ? sizes[p] : MISSING;
        }

        boolean holds(int p, int i) {
            return isPlace(p) && i >= 0 && i < sizes[p];
        }

        boolean holdsPart(int p, int i, int n) {
            return i >= 0 && n >= 0 && i <= size(p) - n;
        }

        /** The number in a place; 0 where there is no place. */
        int get(int p, int i) {
            return holds(p, i) ? items[p][i] : 0;
        }

        void set(int p, int i, int v) {
            if (holds(p, i)) {
                items[p][i] = v;
            }
        }

        void make(int p, int n, int v) {
            if (isPlace(p) && n >= 0 && n <= items[p].length) {
                sizes[p] = n;
                Arrays.fill(items[p], v);
            }
        }

        void drop(int p) {
            if (isPlace(p)) {
                sizes[p] = MISSING;
            }
        }

        void copyPart(int p, int i, int to, int j, int n) {
            if (holdsPart(p, i, n) && holdsPart(to, j, n)) {
                System.arraycopy(items[p], i, items[to], j, n);
            }
        }

        int thereCount() {
            int there = 0;
            for (int p = 0; p < sizes.length; p++) {
                there += has(p) ? 1 : 0;
            }
            return there;
        }

        long digestFrom(long begun) {
            long h = begun;
            for (int p = 0; p < sizes.length; p++) {
                h = 31 * h + sizes[p];
                for (int i = 0; i < sizes[p]; i++) {
                    h = 31 * h + items[p][i];
                }
            }
            return h;
        }
    }

    /** What a text tells of a house: the play, and the sitters as they come. */
    private static final class Script {
        private static final char[] LETTERS = {'s', 'c', 'k', 'u', 'w', 'q'};

        private int promptCount;
        private int sceneCount;
        private int sitterCount;
        private final int[] lineCount = new int[SCENES_MOST];
        private final int[] kind = new int[SITTERS_MOST];
        private final int[] seat = new int[SITTERS_MOST];
        private final int[] memory = new int[SITTERS_MOST];
        private final int[] fright = new int[SITTERS_MOST];
        private int takenSeats;
        private int claqueBits;

        /** The place of the fault, or NONE; behind a fault what was read so far is of no use. */
        int read(Shelf texts, int t) {
            sceneCount = 0;
            sitterCount = 0;
            takenSeats = 0;
            claqueBits = 0;
            // Behind its end a text gives 0, which is no letter, figure or blank: an early end faults at the size.
            int p = pastBlanks(texts, t, 0);
            if (texts.get(t, p) != 'a') {
                return p;
            }
            promptCount = figureAt(texts, t, p + 1);
            if (promptCount < 0) {
                return p + 1;
            }
            p = readLines(texts, t, p + 2);
            if (sceneCount == 0) {
                return p;
            }
            for (int n = 0; n <= SITTERS_MOST; n++) {
                p = pastBlanks(texts, t, p);
                if (p >= texts.size(t)) {
                    return sitterCount == 0 ? p : NONE;
                }
                int read = readSitter(texts, t, p);
                if (read < 4) {
                    return p + read;
                }
                p += read;
            }
            return p;
        }

        private int readLines(Shelf texts, int t, int from) {
            int p = from;
            for (int s = 0; s < SCENES_MOST && figureAt(texts, t, p) > 0; s++) {
                lineCount[s] = figureAt(texts, t, p);
                sceneCount = s + 1;
                p++;
            }
            return p;
        }

        /** How many of the four signs of a sitter stand there; with all four the sitter is taken in. */
        private int readSitter(Shelf texts, int t, int p) {
            int i = sitterCount;
            int kindRead = kindAt(texts, t, p);
            if (i >= SITTERS_MOST || kindRead == NONE) {
                return 0;
            }
            int seatRead = figureAt(texts, t, p + 1);
            if (seatRead < 0 || isIn(takenSeats, seatRead)) {
                return 1;
            }
            kind[i] = kindRead;
            seat[i] = seatRead;
            memory[i] = figureAt(texts, t, p + 2);
            fright[i] = figureAt(texts, t, p + 3);
            if (memory[i] < 0) {
                return 2;
            }
            if (fright[i] < 0) {
                return 3;
            }
            takenSeats |= 1 << seatRead;
            claqueBits |= kindRead == CLAQUE ? 1 << i : 0;
            sitterCount = i + 1;
            return 4;
        }

        private static int figureAt(Shelf texts, int t, int p) {
            int sign = texts.get(t, p);
            return sign >= '0' && sign <= '9' ? sign - '0' : NONE;
        }

        private static int kindAt(Shelf texts, int t, int p) {
            int sign = texts.get(t, p);
            for (int k = 0; k < LETTERS.length; k++) {
                if (LETTERS[k] == sign) {
                    return k;
                }
            }
            return NONE;
        }

        private static int pastBlanks(Shelf texts, int t, int from) {
            int p = from;
            while (p < texts.size(t) && texts.get(t, p) == BLANK) {
                p++;
            }
            return p;
        }

        boolean isSitter(int i) {
            return i >= 0 && i < sitterCount;
        }

        int clerkCount() {
            int clerks = 0;
            for (int i = 0; i < sitterCount; i++) {
                clerks += isOfKind(kind[i], CLERK) ? 1 : 0;
            }
            return clerks;
        }

        int otherClaques(int i, int called) {
            return Integer.bitCount(claqueBits & ~called & ~(1 << i));
        }

        int lacking(int i, int scene, int called, int clapping) {
            if (!isSitter(i) || scene < 0 || scene >= sceneCount) {
                return 0;
            }
            int said = says(kind[i], memory[i], fright[i], clapping, otherClaques(i, called));
            return Math.max(0, lineCount[scene] - said);
        }
    }

    /** How the night stands, and the deeds that brought it there from the script. */
    private static final class Night {
        private static final int CHANGE = 10;

        private final Script script;
        private final int[] seat = new int[SITTERS_MOST];
        private final int[] deeds = new int[DEEDS_MOST];
        private int deedCount;
        private int scene;
        private int called;
        private int promptsLeft;
        private int shame;
        private int clapping;
        private int carriedCount;

        Night(Script script) {
            this.script = script;
        }

        void begin() {
            System.arraycopy(script.seat, 0, seat, 0, SITTERS_MOST);
            deedCount = 0;
            scene = 0;
            called = 0;
            promptsLeft = script.promptCount;
            shame = 0;
            clapping = 0;
            carriedCount = 0;
        }

        /** A deed is a sitter's number (he is called), NONE (a cut), or deedOfChange(). */
        static int deedOfChange(int i, int j) {
            return CHANGE + i * SITTERS_MOST + j;
        }

        void perform(int deed) {
            if (deedCount >= DEEDS_MOST) {
                return;
            }
            deeds[deedCount] = deed;
            deedCount++;
            if (deed >= CHANGE) {
                exchange((deed - CHANGE) / SITTERS_MOST, (deed - CHANGE) % SITTERS_MOST);
                return;
            }
            if (deed != NONE) {
                playScene(deed);
            }
            scene++;
        }

        private void playScene(int i) {
            int lacking = script.lacking(i, scene, called, clapping);
            if (lacking <= promptsLeft) {
                promptsLeft -= lacking;
                shame += lacking;
                clapping += lacking == 0 ? 2 : 1;
                carriedCount++;
            } else {
                clapping--;
            }
            called |= 1 << i;
        }

        private void exchange(int i, int j) {
            if (script.isSitter(i) && script.isSitter(j)) {
                int kept = seat[i];
                seat[i] = seat[j];
                seat[j] = kept;
            }
        }

        int scenesYet() {
            return script.sceneCount - scene;
        }

        int lackingNow(int i) {
            return script.lacking(i, scene, called, clapping);
        }

        /** Those whose seats let them be called, called already or not. */
        int allowed() {
            int bits = 0;
            for (int i = 0; i < script.sitterCount; i++) {
                bits |= isCallableFrom(script.kind[i], seat[i]) ? 1 << i : 0;
            }
            return bits;
        }

        int allowedIfChanged(int i, int j) {
            exchange(i, j);
            int bits = allowed();
            exchange(i, j);
            return bits;
        }

        int free() {
            return allowed() & ~called;
        }

        int takenSeats() {
            return takenSeatsWithout(0);
        }

        int takenSeatsWithout(int home) {
            int bits = 0;
            for (int i = 0; i < script.sitterCount; i++) {
                bits |= isIn(home, i) ? 0 : 1 << seat[i];
            }
            return bits;
        }

        int whatOfSitter(int i, int what) {
            if (!script.isSitter(i)) {
                return BAD;
            }
            switch (what) {
                case 0: return script.kind[i];
                case 1: return seat[i];
                case 2: return script.memory[i];
                case 3: return script.fright[i];
                case 4: return fears(script.kind[i], script.fright[i], clapping);
                case 5: return saysNow(i);
                case 6: return isIn(called, i) ? 1 : 0;
                default: return isIn(free(), i) ? 1 : 0;
            }
        }

        private int saysNow(int i) {
            int claques = script.otherClaques(i, called);
            return says(script.kind[i], script.memory[i], script.fright[i], clapping, claques);
        }

        int markOf(int i, int kind) {
            if (!script.isSitter(i)) {
                return BAD;
            }
            switch (kind) {
                case CLERK: return scenesWithoutPrompt(i);
                case CRITIC: return othersInEvenSeats(i);
                case UNCLE: return fears(SITTER, script.fright[i], clapping) - fears(UNCLE, script.fright[i], clapping);
                case COWARD: return Math.max(0, EXIT_SEAT - seat[i]);
                default: return script.otherClaques(i, called);
            }
        }

        private int scenesWithoutPrompt(int i) {
            int n = 0;
            for (int s = scene; s < script.sceneCount; s++) {
                n += script.lacking(i, s, called, clapping) == 0 ? 1 : 0;
            }
            return n;
        }

        private int othersInEvenSeats(int i) {
            int n = 0;
            for (int other = 0; other < script.sitterCount; other++) {
                n += other != i && seat[other] % 2 == 0 ? 1 : 0;
            }
            return n;
        }
    }

    /** Looks through the plans from the night as it stands, without changing it. */
    private static final class Search {
        private final Night night;
        private final Script script;
        private final int[] path = new int[SCENES_MOST];
        private final int[] bestPlan = new int[SCENES_MOST];
        /** How many plans there are for so many scenes with so many who can be called. */
        private final int[][] planCount = new int[SCENES_MOST + 1][SITTERS_MOST + 1];
        private int allowed;
        private int most;
        private int fewestGone;
        private int firstCalled;
        private int applauseBehind;
        private int wanted;
        private long wayCount;
        private int calledInAll;
        private long draws;
        private long drawsCarried;
        private long drawsApplause;

        Search(Night night) {
            this.night = night;
            this.script = night.script;
            for (int k = 0; k <= SITTERS_MOST; k++) {
                planCount[0][k] = 1;
            }
            for (int n = 1; n <= SCENES_MOST; n++) {
                planCount[n][0] = 1;
                for (int k = 1; k <= SITTERS_MOST; k++) {
                    planCount[n][k] = planCount[n - 1][k] + k * planCount[n - 1][k - 1];
                }
            }
        }

        private boolean isFree(int i, int called) {
            return isIn(allowed & ~called, i);
        }

        private int freeCount(int called) {
            return Integer.bitCount(allowed & ~called);
        }

        /** No plan can carry more scenes from here on. */
        private int hope(int scene, int called) {
            return Math.min(script.sceneCount - scene, freeCount(called));
        }

        private static int clappingBehind(int clapping, int lacking, int prompts) {
            if (lacking > prompts) {
                return clapping - 1;
            }
            return clapping + (lacking == 0 ? 2 : 1);
        }

        private static int promptsBehind(int lacking, int prompts) {
            return lacking > prompts ? prompts : prompts - lacking;
        }

        /** How many scenes a plan carries; it has been looked at before. */
        int playPlan(Shelf rows, int r) {
            int called = night.called;
            int prompts = night.promptsLeft;
            int carried = 0;
            applauseBehind = night.clapping;
            for (int k = 0; k < rows.size(r); k++) {
                int i = rows.get(r, k);
                if (i != NONE) {
                    int lacking = script.lacking(i, night.scene + k, called, applauseBehind);
                    carried += lacking <= prompts ? 1 : 0;
                    applauseBehind = clappingBehind(applauseBehind, lacking, prompts);
                    prompts = promptsBehind(lacking, prompts);
                    called |= 1 << i;
                }
            }
            return carried;
        }

        /** The most scenes that a plan carries if those can be called; no fewer than are known to be carried. */
        int findMost(int allowedThen, int known) {
            allowed = allowedThen;
            most = known;
            seekMost(night.scene, night.called, night.clapping, night.promptsLeft, 0);
            return most;
        }

        // A call that carries nothing is never better than a cut, which comes first, too: whoever is called later
        // lacks no more for it. So for the most and for the best plan only calls that carry are tried.

        private void seekMost(int scene, int called, int clapping, int prompts, int carried) {
            most = Math.max(most, carried);
            if (scene >= script.sceneCount || carried + hope(scene, called) <= most) {
                return;
            }
            for (int i = 0; i < script.sitterCount; i++) {
                int lacking = isFree(i, called) ? script.lacking(i, scene, called, clapping) : NONE;
                if (lacking >= 0 && lacking <= prompts) {
                    seekMost(scene + 1, called | 1 << i, clappingBehind(clapping, lacking, prompts),
                            prompts - lacking, carried + 1);
                }
            }
            seekMost(scene + 1, called, clapping, prompts, carried);
        }

        /** Of the plans that carry as many as findMost() found, the first one of fewest prompts. */
        void findFirstOfMost() {
            fewestGone = night.promptsLeft + 1;
            seekBest(night.scene, night.called, night.clapping, night.promptsLeft, 0);
        }

        int choiceFor(int scene) {
            return scene >= 0 && scene < SCENES_MOST ? bestPlan[scene] : NONE;
        }

        private void seekBest(int scene, int called, int clapping, int prompts, int carried) {
            int gone = night.promptsLeft - prompts;
            if (carried + hope(scene, called) < most || gone >= fewestGone) {
                return;
            }
            if (scene >= script.sceneCount) {
                fewestGone = gone;
                System.arraycopy(path, 0, bestPlan, 0, SCENES_MOST);
                return;
            }
            path[scene] = NONE;
            seekBest(scene + 1, called, clapping, prompts, carried);
            for (int i = 0; i < script.sitterCount; i++) {
                int lacking = isFree(i, called) ? script.lacking(i, scene, called, clapping) : NONE;
                if (lacking >= 0 && lacking <= prompts) {
                    path[scene] = i;
                    seekBest(scene + 1, called | 1 << i, clappingBehind(clapping, lacking, prompts),
                            prompts - lacking, carried + 1);
                }
            }
        }

        /** The fewest prompts for all scenes yet; as many can be called as there are scenes. */
        int findLeast() {
            allowed = night.allowed();
            firstCalled = NONE;
            fewestGone = SCENES_MOST * FIGURE_MOST + 1;
            seekLeast(night.scene, night.called, night.clapping, 0);
            return fewestGone;
        }

        private void seekLeast(int scene, int called, int clapping, int gone) {
            if (gone >= fewestGone) {
                return;
            }
            if (scene >= script.sceneCount) {
                fewestGone = gone;
                firstCalled = scene > night.scene ? path[night.scene] : NONE;
                return;
            }
            for (int i = 0; i < script.sitterCount; i++) {
                if (isFree(i, called)) {
                    int lacking = script.lacking(i, scene, called, clapping);
                    path[scene] = i;
                    seekLeast(scene + 1, called | 1 << i, clappingBehind(clapping, lacking, lacking), gone + lacking);
                }
            }
        }

        void findWays(int n) {
            allowed = night.allowed();
            wanted = n;
            wayCount = 0;
            calledInAll = ~night.called;
            seekWays(night.scene, night.called, night.clapping, night.promptsLeft, 0);
            calledInAll = wayCount == 0 ? 0 : calledInAll;
        }

        private void seekWays(int scene, int called, int clapping, int prompts, int carried) {
            if (carried >= wanted) {
                // However it goes on, it is such a plan; by cuts alone, too, so that nobody else is in all of them.
                wayCount += plansFor(script.sceneCount - scene, freeCount(called));
                calledInAll &= called;
                return;
            }
            if (scene >= script.sceneCount || carried + hope(scene, called) < wanted) {
                return;
            }
            seekWays(scene + 1, called, clapping, prompts, carried);
            for (int i = 0; i < script.sitterCount; i++) {
                if (isFree(i, called)) {
                    int lacking = script.lacking(i, scene, called, clapping);
                    seekWays(scene + 1, called | 1 << i, clappingBehind(clapping, lacking, prompts),
                            promptsBehind(lacking, prompts), carried + (lacking <= prompts ? 1 : 0));
                }
            }
        }

        private int plansFor(int scenes, int sitters) {
            boolean known = scenes >= 0 && scenes <= SCENES_MOST && sitters >= 0 && sitters <= SITTERS_MOST;
            return known ? planCount[scenes][sitters] : 0;
        }

        int findDuel(int n) {
            allowed = night.allowed();
            return duelFrom(night.scene, night.scene + n, night.called, night.clapping, night.promptsLeft, true);
        }

        private int duelFrom(int scene, int end, int called, int clapping, int prompts, boolean wantsMany) {
            // With nobody left to call, all that is left is cut.
            if (scene >= end || scene >= script.sceneCount || freeCount(called) == 0) {
                return 0;
            }
            int chosen = wantsMany ? -1 : SCENES_MOST + 1;
            for (int i = 0; i < script.sitterCount; i++) {
                if (isFree(i, called)) {
                    int lacking = script.lacking(i, scene, called, clapping);
                    int carried = (lacking <= prompts ? 1 : 0)
                            + duelFrom(scene + 1, end, called | 1 << i, clappingBehind(clapping, lacking, prompts),
                                    promptsBehind(lacking, prompts), !wantsMany);
                    chosen = wantsMany ? Math.max(chosen, carried) : Math.min(chosen, carried);
                }
            }
            return chosen;
        }

        /** All ways to draw are as likely: at each scene as many can be drawn, whoever was drawn ahead. */
        void findDraws(int n) {
            allowed = night.allowed();
            wanted = n;
            draws = 0;
            drawsCarried = 0;
            drawsApplause = 0;
            seekDraws(night.scene, night.called, night.clapping, night.promptsLeft, 0);
        }

        private void seekDraws(int scene, int called, int clapping, int prompts, int carried) {
            if (scene >= script.sceneCount || freeCount(called) == 0) {
                draws++;
                drawsCarried += carried >= wanted ? 1 : 0;
                drawsApplause += clapping;
                return;
            }
            for (int i = 0; i < script.sitterCount; i++) {
                if (isFree(i, called)) {
                    int lacking = script.lacking(i, scene, called, clapping);
                    seekDraws(scene + 1, called | 1 << i, clappingBehind(clapping, lacking, prompts),
                            promptsBehind(lacking, prompts), carried + (lacking <= prompts ? 1 : 0));
                }
            }
        }
    }
}
