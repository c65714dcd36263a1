import java.math.BigInteger;
import java.util.ArrayList;
import java.util.Arrays;
import java.util.Collections;
import java.util.HashSet;
import java.util.List;
import java.util.Set;

/**
 * The document once more, as plainly as the Java library lets it be said: every plan is written out and played,
 * every deed leaves a snapshot, chances are multiplied as fractions. It shares no way of working with the class.
 */
final class Model {
    private static final int BAD = -1, FULL = -2, FINDING = -3, STATE = -4, NONE = -9;

    /** A sitter; the objects never change, but for a change of seats, which makes new ones. */
    record One(int kind, int seat, int memory, int fright) { }

    /** A house in some moment; copied whenever something is done. */
    record State(int prompts, List<Integer> lines, List<One> sitters, Set<Integer> called, int scene,
            int applause, int shame, int carried) {

        boolean clerk(int i) {
            return List.of(1, 3, 5).contains(sitters.get(i).kind());
        }

        boolean can(int i) {
            One one = sitters.get(i);
            boolean seatLets = switch (one.kind()) {
                case 2 -> one.seat() % 2 != 0;
                case 4 -> one.seat() < 7;
                default -> true;
            };
            return seatLets && !called.contains(i);
        }

        List<Integer> canBeCalled() {
            List<Integer> all = new ArrayList<>();
            for (int i = 0; i < sitters.size(); i++) {
                if (can(i)) {
                    all.add(i);
                }
            }
            return all;
        }

        int otherClaques(int i) {
            int n = 0;
            for (int j = 0; j < sitters.size(); j++) {
                if (j != i && sitters.get(j).kind() == 5 && !called.contains(j)) {
                    n++;
                }
            }
            return n;
        }

        int fears(int i) {
            return fearsOf(sitters.get(i).kind(), sitters.get(i).fright(), applause);
        }

        int says(int i) {
            One one = sitters.get(i);
            return saysOf(one.kind(), one.memory(), one.fright(), applause, otherClaques(i));
        }

        int lacking(int i) {
            return Math.max(0, lines.get(scene) - says(i));
        }

        int yet() {
            return lines.size() - scene;
        }

        State afterCut() {
            return new State(prompts, lines, sitters, called, scene + 1, applause, shame, carried);
        }

        State afterCall(int i) {
            Set<Integer> then = new HashSet<>(called);
            then.add(i);
            int lacks = lacking(i);
            if (lacks <= prompts) {
                return new State(prompts - lacks, lines, sitters, then, scene + 1,
                        applause + (lacks == 0 ? 2 : 1), shame + lacks, carried + 1);
            }
            return new State(prompts, lines, sitters, then, scene + 1, applause - 1, shame, carried);
        }

        State after(int choice) {
            return choice == NONE ? afterCut() : afterCall(choice);
        }

        State afterChange(int i, int j) {
            List<One> then = new ArrayList<>(sitters);
            One a = sitters.get(i);
            One b = sitters.get(j);
            then.set(i, new One(a.kind(), b.seat(), a.memory(), a.fright()));
            then.set(j, new One(b.kind(), a.seat(), b.memory(), b.fright()));
            return new State(prompts, lines, then, called, scene, applause, shame, carried);
        }

        State withPrompts(int n) {
            return new State(n, lines, sitters, called, scene, applause, shame, carried);
        }
    }

    static int fearsOf(int kind, int fright, int applause) {
        int f = fright - applause;
        if (f < 0) {
            f = 0;
        }
        return kind == 3 || kind == 5 ? f / 2 : f;
    }

    static int saysOf(int kind, int memory, int fright, int applause, int claques) {
        int s = memory - fearsOf(kind, fright, applause);
        if (s < 0) {
            s = 0;
        }
        return switch (kind) {
            case 1, 3 -> s + 2;
            case 5 -> s + 2 + claques;
            default -> s;
        };
    }

    private final int[][] rows = new int[6][];
    private final byte[][] texts = new byte[4][];
    private State now = new State(0, List.of(), List.of(), Set.of(), 0, 0, 0, 0);
    /** What was ahead of each deed, the first deed's first. */
    private List<State> ahead = new ArrayList<>();
    private final State[] keptNow = new State[3];
    private final List<List<State>> keptAhead = new ArrayList<>(Arrays.asList(null, null, null));
    private int asked;
    private BigInteger upper = BigInteger.ZERO;
    private BigInteger lower = BigInteger.ONE;
    private int finding;
    private final int[] findings = new int[6];

    private int find(int f) {
        finding = f;
        findings[f]++;
        return FINDING;
    }

    private int ask(int v) {
        asked = v;
        return 1;
    }

    private void fraction(BigInteger u, BigInteger l) {
        BigInteger g = u.gcd(l);
        upper = u.divide(g);
        lower = l.divide(g);
    }

    private static boolean in(int v, int from, int to) {
        return v >= from && v <= to;
    }

    private boolean noSitter(int i) {
        return !in(i, 0, now.sitters().size() - 1);
    }

    private boolean empty() {
        return now.sitters().isEmpty();
    }

    int row(int r, int n) {
        if (!in(r, 0, 5) || n > 40) return BAD;
        if (n < 0) return find(5);
        rows[r] = new int[n];
        return n;
    }

    int lay(int r, int i, int v) {
        int before = asked;
        int answer = at(r, i);
        if (answer != 1) {
            asked = before;
            return answer;
        }
        rows[r][i] = v;
        return 1;
    }

    int at(int r, int i) {
        if (!in(r, 0, 5)) return BAD;
        if (rows[r] == null) return find(1);
        if (!in(i, 0, rows[r].length - 1)) return find(2);
        return ask(rows[r][i]);
    }

    int tear(int r) {
        if (!in(r, 0, 5)) return BAD;
        if (rows[r] == null) return find(1);
        rows[r] = null;
        return 1;
    }

    int copy(int r, int i, int to, int j, int n) {
        if (!in(r, 0, 5) || !in(to, 0, 5)) return BAD;
        if (n < 0) return find(5);
        if (rows[r] == null || rows[to] == null) return find(1);
        if (i < 0 || j < 0 || (long) i + n > rows[r].length || (long) j + n > rows[to].length) return find(2);
        int[] taken = Arrays.copyOfRange(rows[r], i, i + n);
        for (int k = 0; k < n; k++) {
            rows[to][j + k] = taken[k];
        }
        return 1;
    }

    int mean(int r) {
        if (!in(r, 0, 5)) return BAD;
        if (rows[r] == null) return find(1);
        if (rows[r].length == 0) return find(4);
        BigInteger sum = BigInteger.ZERO;
        for (int v : rows[r]) {
            sum = sum.add(BigInteger.valueOf(v));
        }
        return ask(sum.divide(BigInteger.valueOf(rows[r].length)).intValueExact());
    }

    int text(int t, int n) {
        if (!in(t, 0, 3) || n > 60) return BAD;
        if (n < 0) return find(5);
        texts[t] = new byte[n];
        Arrays.fill(texts[t], (byte) 32);
        return n;
    }

    int put(int t, int i, int v) {
        if (!in(t, 0, 3)) return BAD;
        if (texts[t] == null) return find(1);
        if (!in(i, 0, texts[t].length - 1)) return find(2);
        int old = texts[t][i];
        texts[t][i] = (byte) v;
        return old + 1000;
    }

    int fault(int t) {
        if (!in(t, 0, 3)) return BAD;
        if (texts[t] == null) return find(1);
        return faultOf(texts[t]);
    }

    /** The longest beginning that some house begins with: the fault stands behind it. */
    private static int faultOf(byte[] bytes) {
        StringBuilder sb = new StringBuilder();
        for (byte b : bytes) {
            sb.append((char) (b & 255));
        }
        String s = sb.toString();
        if (isHouse(s)) return NONE;
        int n = 0;
        while (n < s.length() && begins(s.substring(0, n + 1))) {
            n++;
        }
        return n;
    }

    private static final String SIT = "[sckuwq][0-9][0-9][0-9]";

    private static boolean isHouse(String s) {
        return s.matches(" *a[0-9][1-9]{1,6}( *" + SIT + "){1,6} *") && seatsUnlike(s);
    }

    private static boolean begins(String s) {
        return seatsUnlike(s) && (s.matches(" *") || s.matches(" *a") || s.matches(" *a[0-9]")
                || s.matches(" *a[0-9][1-9]{1,6}( *" + SIT + "){0,6} *")
                || s.matches(" *a[0-9][1-9]{1,6}( *" + SIT + "){0,5} *[sckuwq][0-9]{0,2}"));
    }

    private static boolean seatsUnlike(String s) {
        Set<Character> taken = new HashSet<>();
        for (int k = 0; k + 1 < s.length(); k++) {
            if ("sckuwq".indexOf(s.charAt(k)) >= 0 && Character.isDigit(s.charAt(k + 1)) && !taken.add(s.charAt(k + 1))) {
                return false;
            }
        }
        return true;
    }

    int house(int t) {
        if (!in(t, 0, 3)) return BAD;
        if (texts[t] == null) return find(1);
        if (faultOf(texts[t]) != NONE) return STATE;
        StringBuilder sb = new StringBuilder();
        for (byte b : texts[t]) {
            if (b != 32) {
                sb.append((char) b);
            }
        }
        String s = sb.toString();
        List<Integer> lines = new ArrayList<>();
        int p = 2;
        while (Character.isDigit(s.charAt(p))) {
            lines.add(s.charAt(p++) - '0');
        }
        List<One> sitters = new ArrayList<>();
        for (; p < s.length(); p += 4) {
            sitters.add(new One("sckuwq".indexOf(s.charAt(p)), s.charAt(p + 1) - '0', s.charAt(p + 2) - '0',
                    s.charAt(p + 3) - '0'));
        }
        now = new State(s.charAt(1) - '0', lines, sitters, Set.of(), 0, 0, 0, 0);
        ahead = new ArrayList<>();
        for (int k = 0; k < 3; k++) {
            keptNow[k] = null;
        }
        return sitters.size();
    }

    private int what(int i, int what) {
        One one = now.sitters().get(i);
        return switch (what) {
            case 0 -> one.kind();
            case 1 -> one.seat();
            case 2 -> one.memory();
            case 3 -> one.fright();
            case 4 -> now.fears(i);
            case 5 -> now.says(i);
            case 6 -> now.called().contains(i) ? 1 : 0;
            default -> now.can(i) ? 1 : 0;
        };
    }

    int sitter(int i, int what) {
        if (noSitter(i) || !in(what, 0, 7)) return BAD;
        return ask(what(i, what));
    }

    int mark(int i, int kind) {
        if (noSitter(i) || !in(kind, 1, 5)) return BAD;
        One one = now.sitters().get(i);
        List<List<Integer>> is = List.of(List.of(0), List.of(0, 1), List.of(0, 2), List.of(0, 1, 3), List.of(0, 4),
                List.of(0, 1, 3, 5));
        if (!is.get(one.kind()).contains(kind)) return find(3);
        int n = 0;
        switch (kind) {
            case 1:
                for (int s = now.scene(); s < now.lines().size(); s++) {
                    n += now.says(i) >= now.lines().get(s) ? 1 : 0;
                }
                return n;
            case 2:
                for (One other : now.sitters()) {
                    n += other != one && other.seat() % 2 == 0 ? 1 : 0;
                }
                return n;
            case 3:
                return fearsOf(0, one.fright(), now.applause()) - now.fears(i);
            case 4:
                return one.seat() < 7 ? 7 - one.seat() : 0;
            default:
                return now.otherClaques(i);
        }
    }

    int lines(int scene) {
        return in(scene, 0, now.lines().size() - 1) ? now.lines().get(scene) : BAD;
    }

    private void deed(State then) {
        ahead.add(now);
        now = then;
    }

    int call(int i) {
        if (noSitter(i)) return BAD;
        if (now.yet() == 0 || !now.can(i)) return STATE;
        if (ahead.size() == 40) return FULL;
        ask(now.lacking(i));
        int before = now.carried();
        deed(now.afterCall(i));
        return now.carried() > before ? 1 : 0;
    }

    int cut() {
        if (now.yet() == 0) return STATE;
        if (ahead.size() == 40) return FULL;
        deed(now.afterCut());
        return now.scene();
    }

    int change(int i, int j) {
        if (noSitter(i) || noSitter(j) || i == j) return BAD;
        if (ahead.size() == 40) return FULL;
        deed(now.afterChange(i, j));
        return now.canBeCalled().size();
    }

    int undo(int n) {
        if (!in(n, 0, ahead.size())) return BAD;
        int undone = ahead.size() - n;
        while (ahead.size() > n) {
            now = ahead.remove(ahead.size() - 1);
        }
        return undone;
    }

    int keep(int k) {
        if (!in(k, 0, 2)) return BAD;
        if (empty()) return STATE;
        keptNow[k] = now;
        keptAhead.set(k, new ArrayList<>(ahead));
        return ahead.size();
    }

    int on(int k) {
        if (!in(k, 0, 2)) return BAD;
        if (keptNow[k] == null) return find(1);
        now = keptNow[k];
        ahead = new ArrayList<>(keptAhead.get(k));
        return ahead.size();
    }

    private static int bits(Iterable<Integer> all) {
        int b = 0;
        for (int i : all) {
            b |= 1 << i;
        }
        return b;
    }

    int can() {
        return bits(now.canBeCalled());
    }

    int play(int r) {
        if (!in(r, 0, 5)) return BAD;
        if (empty()) return STATE;
        if (rows[r] == null) return find(1);
        if (rows[r].length > now.yet()) return find(5);
        State s = now;
        for (int choice : rows[r]) {
            if (choice != NONE && !s.canBeCalled().contains(choice)) return find(3);
            s = s.after(choice);
        }
        ask(s.applause());
        return s.carried() - now.carried();
    }

    /** A plan and how it ends. */
    record Plan(List<Integer> choices, State end) { }

    /** All plans, the first ones first. */
    private static List<Plan> plans(State from) {
        List<Plan> all = new ArrayList<>();
        all.add(new Plan(List.of(), from));
        for (int k = from.yet(); k > 0; k--) {
            List<Plan> longer = new ArrayList<>();
            for (Plan plan : all) {
                List<Integer> choices = new ArrayList<>();
                choices.add(NONE);
                choices.addAll(plan.end().canBeCalled());
                for (int choice : choices) {
                    List<Integer> then = new ArrayList<>(plan.choices());
                    then.add(choice);
                    longer.add(new Plan(then, plan.end().after(choice)));
                }
            }
            all = longer;
        }
        return all;
    }

    private static int mostCarried(State from) {
        int most = 0;
        for (Plan plan : plans(from)) {
            most = Math.max(most, plan.end().carried() - from.carried());
        }
        return most;
    }

    int best(int r) {
        if (!in(r, 0, 5)) return BAD;
        if (empty()) return STATE;
        Plan best = null;
        for (Plan plan : plans(now)) {
            if (best == null || plan.end().carried() > best.end().carried()
                    || plan.end().carried() == best.end().carried() && plan.end().prompts() > best.end().prompts()) {
                best = plan;
            }
        }
        rows[r] = new int[best.choices().size()];
        for (int k = 0; k < rows[r].length; k++) {
            rows[r][k] = best.choices().get(k);
        }
        ask(now.prompts() - best.end().prompts());
        return best.end().carried() - now.carried();
    }

    int least() {
        if (empty()) return STATE;
        if (now.canBeCalled().size() < now.yet()) return NONE;
        for (int prompts = 0; ; prompts++) {
            int first = firstOfAllCarried(now.withPrompts(prompts));
            if (first != BAD) {
                ask(first);
                return prompts;
            }
        }
    }

    /** The first one called by the first plan that carries all; NONE: no scene; BAD: no such plan. */
    private static int firstOfAllCarried(State from) {
        if (from.yet() == 0) return NONE;
        for (int i : from.canBeCalled()) {
            State then = from.afterCall(i);
            if (then.carried() > from.carried() && firstOfAllCarried(then) != BAD) return i;
        }
        return BAD;
    }

    int ways(int n) {
        if (!in(n, 0, 6)) return BAD;
        if (empty()) return STATE;
        int count = 0;
        int inAll = 63;
        for (Plan plan : plans(now)) {
            if (plan.end().carried() - now.carried() >= n) {
                count++;
                List<Integer> who = new ArrayList<>(plan.choices());
                who.removeAll(Collections.singleton(NONE));
                inAll &= bits(who);
            }
        }
        fraction(BigInteger.valueOf(count), BigInteger.ONE);
        return ask(count == 0 ? 0 : inAll);
    }

    int seats() {
        if (empty()) return STATE;
        int most = mostCarried(now);
        int answer = NONE;
        for (int i = 0; i < now.sitters().size(); i++) {
            for (int j = i + 1; j < now.sitters().size(); j++) {
                int then = mostCarried(now.afterChange(i, j));
                if (then > most) {
                    most = then;
                    answer = 10 * i + j;
                }
            }
        }
        if (answer != NONE) {
            ask(most);
        }
        return answer;
    }

    private int pairs(int home) {
        int n = 0;
        for (int i = 0; i < now.sitters().size(); i++) {
            for (int j = 0; j < i; j++) {
                boolean both = (home >> i & 1) == 0 && (home >> j & 1) == 0;
                n += both && Math.abs(now.sitters().get(i).seat() - now.sitters().get(j).seat()) == 1 ? 1 : 0;
            }
        }
        return n;
    }

    int beside() {
        if (empty()) return STATE;
        Set<Integer> taken = new HashSet<>();
        for (One one : now.sitters()) {
            taken.add(one.seat());
        }
        int longest = 0;
        for (int from : taken) {
            int n = 0;
            while (taken.contains(from + n)) {
                n++;
            }
            longest = Math.max(longest, n);
        }
        ask(longest);
        return pairs(0);
    }

    int apart() {
        if (empty()) return STATE;
        for (int n = 0; ; n++) {
            for (int home = 0; home < 64; home++) {
                if (Integer.bitCount(home) == n && pairs(home) == 0) {
                    ask(home);
                    return n;
                }
            }
        }
    }

    private int noNotices(int i, int r) {
        if (noSitter(i) || !in(r, 0, 5)) return BAD;
        if (rows[r] == null) return find(1);
        if (rows[r].length % 3 != 0) return find(5);
        for (int k = 0; k < rows[r].length; k += 3) {
            if (!in(rows[r][k], 1, 9) || !in(rows[r][k + 1], -9, 20) || !in(rows[r][k + 2], 0, 1)) return find(3);
        }
        return 0;
    }

    private boolean fits(int r, int kind, int memory, int fright, int claques) {
        boolean all = true;
        for (int k = 0; k < rows[r].length; k += 3) {
            int lacks = rows[r][k] - saysOf(kind, memory, fright, rows[r][k + 1], claques);
            all &= (lacks <= 0 ? 1 : 0) == rows[r][k + 2];
        }
        return all;
    }

    int frights(int i, int r) {
        int no = noNotices(i, r);
        if (no != 0) return no;
        One one = now.sitters().get(i);
        int frights = 0;
        int memories = 0;
        for (int v = 0; v < 10; v++) {
            frights += fits(r, one.kind(), one.memory(), v, now.otherClaques(i)) ? 1 << v : 0;
            memories += fits(r, one.kind(), v, one.fright(), now.otherClaques(i)) ? 1 << v : 0;
        }
        ask(memories);
        return frights;
    }

    int kinds(int i, int r) {
        int no = noNotices(i, r);
        if (no != 0) return no;
        One one = now.sitters().get(i);
        int kinds = 0;
        for (int kind = 0; kind < 6; kind++) {
            kinds += fits(r, kind, one.memory(), one.fright(), now.otherClaques(i)) ? 1 << kind : 0;
        }
        return kinds;
    }

    int whom(int lacking) {
        if (!in(lacking, 0, 9)) return BAD;
        if (now.yet() == 0) return STATE;
        Set<Integer> answers = new HashSet<>();
        Set<Integer> who = new HashSet<>();
        for (int i : now.canBeCalled()) {
            answers.add(now.lacking(i));
            if (now.lacking(i) == lacking) {
                who.add(i);
            }
        }
        ask(answers.size());
        return bits(who);
    }

    int duel(int n) {
        if (!in(n, 0, 4)) return BAD;
        if (empty()) return STATE;
        return duel(now, Math.min(n, now.yet()), true) - now.carried();
    }

    private static int duel(State s, int n, boolean many) {
        if (n == 0) return s.carried();
        if (s.canBeCalled().isEmpty()) return duel(s.afterCut(), n - 1, !many);
        List<Integer> ends = new ArrayList<>();
        for (int i : s.canBeCalled()) {
            ends.add(duel(s.afterCall(i), n - 1, !many));
        }
        return many ? Collections.max(ends) : Collections.min(ends);
    }

    /** Upper and lower number of the mean of what the night's end gives: 1 by enough carried, or the applause. */
    private static BigInteger[] mean(State s, int n, boolean applause) {
        if (s.yet() == 0) {
            int v = applause ? s.applause() : s.carried() >= n ? 1 : 0;
            return new BigInteger[] {BigInteger.valueOf(v), BigInteger.ONE};
        }
        if (s.canBeCalled().isEmpty()) return mean(s.afterCut(), n, applause);
        BigInteger u = BigInteger.ZERO;
        BigInteger l = BigInteger.ONE;
        for (int i : s.canBeCalled()) {
            BigInteger[] part = mean(s.afterCall(i), n, applause);
            u = u.multiply(part[1]).add(part[0].multiply(l));
            l = l.multiply(part[1]);
            BigInteger g = u.gcd(l);
            u = u.divide(g);
            l = l.divide(g);
        }
        return new BigInteger[] {u, l.multiply(BigInteger.valueOf(s.canBeCalled().size()))};
    }

    int odds(int n) {
        if (!in(n, 0, 6)) return BAD;
        if (empty()) return STATE;
        BigInteger[] m = mean(now, n + now.carried(), false);
        fraction(m[0], m[1]);
        return 1;
    }

    int mid() {
        if (empty()) return STATE;
        BigInteger[] m = mean(now, 0, true);
        fraction(m[0], m[1]);
        return 1;
    }

    int lots(int seed) {
        if (!in(seed, 1, 2147483646)) return BAD;
        if (now.yet() == 0) return STATE;
        if (ahead.size() + now.yet() > 40) return FULL;
        BigInteger x = BigInteger.valueOf(seed);
        int before = now.carried();
        while (now.yet() > 0) {
            x = x.multiply(BigInteger.valueOf(48271)).mod(BigInteger.valueOf(2147483647));
            List<Integer> can = now.canBeCalled();
            if (can.isEmpty()) {
                deed(now.afterCut());
            } else {
                deed(now.afterCall(can.get(x.intValueExact() / 8 % can.size())));
            }
        }
        return now.carried() - before;
    }

    int asked() {
        return asked;
    }

    long upper() {
        return upper.longValueExact();
    }

    long lower() {
        return lower.longValueExact();
    }

    int count(int what) {
        int n = 0;
        switch (what) {
            case 0: return now.sitters().size();
            case 1: return now.lines().size();
            case 2: return now.scene();
            case 3: return ahead.size();
            case 4: return now.prompts();
            case 5: return now.shame();
            case 6: return now.carried();
            case 7:
                for (int i = 0; i < now.sitters().size(); i++) {
                    n += now.clerk(i) ? 1 : 0;
                }
                return n;
            case 8:
                for (int[] row : rows) {
                    n += row == null ? 0 : 1;
                }
                return n;
            case 9:
                for (byte[] text : texts) {
                    n += text == null ? 0 : 1;
                }
                return n;
            case 10:
                for (State kept : keptNow) {
                    n += kept == null ? 0 : 1;
                }
                return n;
            default: return BAD;
        }
    }

    int applause() {
        return now.applause() + 1000;
    }

    int finding() {
        return finding;
    }

    int findings(int f) {
        return in(f, 1, 5) ? findings[f] : BAD;
    }

    long digest() {
        List<Integer> all = new ArrayList<>();
        for (int k = 0; k <= 10; k++) {
            all.add(count(k));
        }
        all.add(applause());
        all.addAll(now.lines());
        for (int i = 0; i < now.sitters().size(); i++) {
            for (int k = 0; k < 8; k++) {
                all.add(what(i, k));
            }
        }
        for (int k = 0; k < 3; k++) {
            all.add(keptNow[k] == null ? -1 : keptAhead.get(k).size());
        }
        for (int[] row : rows) {
            all.add(row == null ? -1 : row.length);
            for (int k = 0; row != null && k < row.length; k++) {
                all.add(row[k]);
            }
        }
        for (byte[] text : texts) {
            all.add(text == null ? -1 : text.length);
            for (int k = 0; text != null && k < text.length; k++) {
                all.add((int) text[k]);
            }
        }
        long h = 17;
        for (int v : all) {
            h = 31 * h + v;
        }
        return h;
    }
}
