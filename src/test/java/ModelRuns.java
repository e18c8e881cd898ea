import java.util.ArrayList;
import java.util.HashMap;
import java.util.List;
import java.util.Map;
import java.util.Random;
import java.util.Set;
import java.util.TreeSet;

/** Random runs of calls (with fixed seeds), held against a model that tries everything. */
public final class ModelRuns {
    private static final int BAD = -1, NOT = -2, FULL = -3, NONE = -4, NULL = -11, CAST = -12, INDEX = -13, SIZE = -14;

    private static final class Lock {
        int panel, bar, holder, weight, kind, year;
        boolean gone;
        String letters;

        Lock copy() {
            Lock l = new Lock();
            l.panel = panel;
            l.bar = bar;
            l.holder = holder;
            l.weight = weight;
            l.kind = kind;
            l.year = year;
            l.gone = gone;
            l.letters = letters;
            return l;
        }
    }

    private static final class Model {
        List<int[]> panels = new ArrayList<>();
        List<int[]> risks = new ArrayList<>();
        List<Lock> locks = new ArrayList<>();
        List<int[]> sights = new ArrayList<>();
        List<String> people = new ArrayList<>();
        int nightly = 2;
        int[][] months = new int[12][];

        Model copy() {
            Model m = new Model();
            m.panels.addAll(panels);
            for (int[] r : risks) {
                m.risks.add(r.clone());
            }
            for (Lock l : locks) {
                m.locks.add(l.copy());
            }
            m.sights.addAll(sights);
            m.people.addAll(people);
            m.nightly = nightly;
            m.months = months.clone();
            return m;
        }

        boolean isPanel(int p) {
            return p >= 0 && p < panels.size();
        }

        boolean isLock(int l) {
            return l >= 0 && l < locks.size();
        }

        boolean hangsUnder(int l, int top) {
            int at = locks.get(l).holder;
            while (at >= 0) {
                if (at == top) {
                    return true;
                }
                at = locks.get(at).holder;
            }
            return false;
        }

        int bears(int l) {
            int sum = 0;
            for (int i = 0; i < locks.size(); i++) {
                if (!locks.get(i).gone && hangsUnder(i, l)) {
                    sum += locks.get(i).weight;
                }
            }
            return sum;
        }

        int load(int p, int b) {
            int sum = 0;
            for (Lock l : locks) {
                if (!l.gone && l.panel == p && (b == 3 || l.bar == b)) {
                    sum += l.weight;
                }
            }
            return b == 4 ? load(p, 0) + 2 * load(p, 1) + load(p, 2) : sum;
        }

        int over() {
            for (int i = 0; i < locks.size(); i++) {
                Lock l = locks.get(i);
                if (!l.gone && bears(i) > l.weight * (l.kind == 0 ? 5 : 9)) {
                    return i;
                }
            }
            for (int p = 0; p < panels.size(); p++) {
                for (int b = 0; b < 3; b++) {
                    if (load(p, b) > panels.get(p)[0]) {
                        return 100 + 10 * p + b;
                    }
                }
            }
            for (int p = 0; p < panels.size(); p++) {
                if (load(p, 3) > panels.get(p)[1] || load(p, 4) > panels.get(p)[2]) {
                    return 200 + p;
                }
            }
            return NONE;
        }

        int drop(int l) {
            int n = 0;
            for (int i = 0; i < locks.size(); i++) {
                if (!locks.get(i).gone && (i == l || hangsUnder(i, l))) {
                    locks.get(i).gone = true;
                    n++;
                }
            }
            return n;
        }

        int giveWay() {
            int n = 0;
            for (int o = over(); o != NONE; o = over()) {
                if (o < 100) {
                    n += drop(o);
                    continue;
                }
                for (Lock l : locks) {
                    boolean there = o < 200 ? l.panel == (o - 100) / 10 && l.bar == o % 10 : l.panel == o - 200;
                    if (!l.gone && there) {
                        l.gone = true;
                        n++;
                    }
                }
            }
            return n;
        }

        int[] span(int p) {
            int least = -1;
            int most = -1;
            boolean any = false;
            for (int[] s : sights) {
                any |= s[0] == p;
            }
            if (!any) {
                return new int[] {0, 99999};
            }
            for (int n = 0; n < 120000; n++) {
                boolean lets = true;
                for (int[] s : sights) {
                    if (s[0] == p) {
                        lets &= s.length == 3 ? n >= s[1] && n <= s[1] + s[2]
                                : (long) n * s[3] <= s[1] + s[2] && (long) n * s[4] >= s[1] - s[2];
                    }
                }
                if (lets) {
                    least = least < 0 ? n : least;
                    most = n;
                }
            }
            return least < 0 ? null : new int[] {least, most};
        }

        static boolean reads(String worn, String name) {
            return name.matches(worn.replace('?', '.'));
        }

        List<int[]> readings(Lock l) {
            List<int[]> found = new ArrayList<>();
            String[] two = l.letters.split("\\+");
            for (int p = 0; p < people.size(); p++) {
                for (int q = 0; q < p; q++) {
                    String a = people.get(p);
                    String b = people.get(q);
                    if (reads(two[0], a) && reads(two[1], b) || reads(two[0], b) && reads(two[1], a)) {
                        found.add(new int[] {p, q});
                    }
                }
            }
            return found;
        }

        long ways;
        int[] some;
        int[] all;

        /** False, if there are too many to try. */
        boolean tryWays() {
            ways = 0;
            some = new int[14];
            all = new int[14];
            for (int i = 0; i < 14; i++) {
                all[i] = 255;
            }
            double most = 1;
            for (Lock l : locks) {
                most *= l.letters == null ? 1 : Math.max(1, readings(l).size());
            }
            if (most > 50000) {
                return false;
            }
            place(0, new int[14], new int[20]);
            return true;
        }

        void place(int i, int[] pairs, int[] taken) {
            if (i == locks.size()) {
                ways++;
                for (int k = 0; k < 14; k++) {
                    some[k] |= pairs[k];
                    all[k] &= pairs[k];
                }
                return;
            }
            Lock l = locks.get(i);
            if (l.letters == null) {
                place(i + 1, pairs, taken);
                return;
            }
            for (int[] r : readings(l)) {
                int two = 1 << r[0] | 1 << r[1];
                if ((taken[l.year] & two) == 0) {
                    taken[l.year] |= two;
                    pairs[i] = two;
                    place(i + 1, pairs, taken);
                    pairs[i] = 0;
                    taken[l.year] &= ~two;
                }
            }
        }

        int[] bestNights;
        int bestCost;
        long bestSets;

        void tryNights(int p, int[] nights) {
            int n = panels.size();
            if (p < n) {
                for (int t = risks.get(p)[2]; t < 12; t++) {
                    nights[p] = t;
                    tryNights(p + 1, nights);
                }
                return;
            }
            int cost = 0;
            int[] sets = new int[12];
            for (int k = 0; k < n; k++) {
                sets[nights[k]] |= 1 << k;
                for (int t = 0; t < nights[k]; t++) {
                    cost += risks.get(k)[0] + t * risks.get(k)[1];
                }
            }
            for (int s : sets) {
                if (Integer.bitCount(s) > nightly) {
                    return;
                }
            }
            if (bestNights == null || cost < bestCost || cost == bestCost && before(sets)) {
                bestCost = cost;
                bestNights = nights.clone();
            }
        }

        boolean before(int[] sets) {
            int[] other = new int[12];
            for (int k = 0; k < panels.size(); k++) {
                other[bestNights[k]] |= 1 << k;
            }
            for (int t = 0; t < 12; t++) {
                if (sets[t] != other[t]) {
                    return sets[t] < other[t];
                }
            }
            return false;
        }

        int laws;
        int firstA;
        int firstS;
        long[] low;
        long[] high;

        void tryLaws() {
            laws = 0;
            low = new long[12];
            high = new long[12];
            java.util.Arrays.fill(low, Long.MAX_VALUE);
            java.util.Arrays.fill(high, -1);
            int from = months[0] == null ? 0 : months[0][0];
            int to = months[0] == null ? 9999 : months[0][1];
            long[] row = new long[12];
            for (int a = 0; a <= 20; a++) {
                for (int s = 0; s <= 9; s++) {
                    boolean fits = false;
                    for (int n = from; n <= to; n++) {
                        boolean leads = true;
                        row[0] = n;
                        for (int m = 1; m < 12; m++) {
                            row[m] = row[m - 1] + row[m - 1] * a / 100 + s;
                            leads &= months[m] == null || row[m] >= months[m][0] && row[m] <= months[m][1];
                        }
                        for (int m = 0; leads && m < 12; m++) {
                            low[m] = Math.min(low[m], row[m]);
                            high[m] = Math.max(high[m], row[m]);
                        }
                        fits |= leads;
                    }
                    if (fits) {
                        if (laws == 0) {
                            firstA = a;
                            firstS = s;
                        }
                        laws++;
                    }
                }
            }
        }

        boolean isSought(int set) {
            if (set <= 0) {
                return false;
            }
            for (int i = 0; i < 31; i++) {
                if ((set >> i & 1) != 0 && (i >= locks.size() || locks.get(i).gone)) {
                    return false;
                }
            }
            return true;
        }

        int yes(int q, int set) {
            int said = 0;
            for (int i = 0; i < locks.size(); i++) {
                Lock l = locks.get(i);
                boolean is = q <= 5 ? l.panel <= q : q < 30 ? l.year <= q - 10 : q == 30 ? l.kind == 0 : l.holder < 0;
                if ((set >> i & 1) != 0 && is) {
                    said |= 1 << i;
                }
            }
            return said;
        }

        static boolean isQuestion(int q) {
            return q <= 5 || q >= 10;
        }

        int[] ask(int set) {
            int[] best = null;
            for (int q = 0; q <= 31; q++) {
                if (isQuestion(q)) {
                    int said = Integer.bitCount(yes(q, set));
                    int worst = Math.max(said, Integer.bitCount(set) - said);
                    if (best == null || worst < best[1]) {
                        best = new int[] {q, worst};
                    }
                }
            }
            return best;
        }

        int needed(int set, Map<Integer, Integer> known) {
            if (Integer.bitCount(set) == 1) {
                return 0;
            }
            Integer k = known.get(set);
            if (k != null) {
                return k;
            }
            int best = 1000;
            for (int q = 0; q <= 31; q++) {
                int said = isQuestion(q) ? yes(q, set) : 0;
                if (said != 0 && said != set) {
                    best = Math.min(best, 1 + Math.max(needed(said, known), needed(set ^ said, known)));
                }
            }
            best = Math.min(best, 1000);
            known.put(set, best);
            return best;
        }

        Set<Integer> loots(int p, int b, int load) {
            Set<Integer> loots = new TreeSet<>();
            for (int taken = 1; taken < 1 << locks.size(); taken++) {
                int went = 0;
                int weight = 0;
                boolean can = true;
                for (int i = 0; i < locks.size() && can; i++) {
                    Lock l = locks.get(i);
                    boolean t = (taken >> i & 1) != 0;
                    can = !t || !l.gone && l.kind == 0 && l.panel == p && l.bar == b;
                    if (!l.gone && (t || l.holder >= 0 && (went >> l.holder & 1) != 0)) {
                        went |= 1 << i;
                        weight += l.weight;
                    }
                }
                if (can && load(p, b) - weight == load) {
                    loots.add(went);
                }
            }
            return loots;
        }
    }

    private final Random random;
    private final LoveLocks x = new LoveLocks();
    private Model m = new Model();
    private Model image;
    private final StringBuilder tape = new StringBuilder();
    private final Object[] sheets = new Object[4];
    private final StringBuilder story = new StringBuilder();
    private final int seed;
    private boolean wrong;

    private ModelRuns(int seed) {
        this.seed = seed;
        random = new Random(seed);
    }

    /** Mostly within, sometimes off by one, seldom far out. */
    private int some(int least, int most) {
        int r = random.nextInt(200);
        if (r == 0) {
            return random.nextInt();
        }
        if (r == 1) {
            return random.nextBoolean() ? least - 1 : most + 1;
        }
        if (r < 8) {
            return random.nextBoolean() ? least : most;
        }
        return least + random.nextInt(Math.max(1, most - least + 1));
    }

    private static boolean in(int v, int least, int most) {
        return v >= least && v <= most;
    }

    private void due(String call, long want, long got) {
        story.append("  ").append(call).append(" = ").append(got).append('\n');
        if (want != got && !wrong) {
            wrong = true;
            System.out.println("seed " + seed + ": " + call + " answered " + got + ", due is " + want);
            System.out.print(story);
        }
    }

    private static String call(String name, long... args) {
        StringBuilder b = new StringBuilder(name).append('(');
        for (int k = 0; k < args.length; k++) {
            b.append(k == 0 ? "" : ", ").append(args[k]);
        }
        return b.append(')').toString();
    }

    private void panel() {
        int[] v = new int[3];
        for (int k = 0; k < 3; k++) {
            v[k] = random.nextInt(3) == 0 ? some(1, 99999) : some(50, 2500);
        }
        int want;
        if (!in(v[0], 1, 99999) || !in(v[1], 1, 99999) || !in(v[2], 1, 99999)) {
            want = BAD;
        } else if (m.panels.size() == 6) {
            want = FULL;
        } else {
            want = m.panels.size();
            m.panels.add(v);
            m.risks.add(new int[3]);
        }
        due(call("panel", v[0], v[1], v[2]), want, x.panel(v[0], v[1], v[2]));
    }

    private int weight() {
        return random.nextInt(3) == 0 ? some(1, 999) : some(1, 12);
    }

    private int year() {
        return random.nextInt(3) == 0 ? some(0, 19) : some(3, 5);
    }

    private void hang() {
        int p = some(0, m.panels.size() - 1);
        int b = some(0, 2);
        int w = weight();
        int k = some(0, 1);
        int y = year();
        int want = BAD;
        if (m.isPanel(p) && in(b, 0, 2)) {
            want = add(p, b, -4, w, k, y);
        }
        due(call("hang", p, b, w, k, y), want, x.hang(p, b, w, k, y));
    }

    private void hangOn() {
        int l = some(0, m.locks.size() - 1);
        int w = weight();
        int k = some(0, 1);
        int y = year();
        int want = BAD;
        if (m.isLock(l) && in(w, 1, 999) && in(k, 0, 1) && in(y, 0, 19)) {
            Lock on = m.locks.get(l);
            want = on.gone ? NOT : add(on.panel, on.bar, l, w, k, y);
        }
        due(call("hangOn", l, w, k, y), want, x.hangOn(l, w, k, y));
    }

    private int add(int p, int b, int holder, int w, int k, int y) {
        if (!in(w, 1, 999) || !in(k, 0, 1) || !in(y, 0, 19)) {
            return BAD;
        }
        if (m.locks.size() == 14) {
            return FULL;
        }
        Lock l = new Lock();
        l.panel = p;
        l.bar = b;
        l.holder = holder;
        l.weight = w;
        l.kind = k;
        l.year = y;
        m.locks.add(l);
        return m.locks.size() - 1;
    }

    private void railTold() {
        int l = some(0, m.locks.size() - 1);
        int what = some(0, 7);
        int want = BAD;
        if (m.isLock(l) && in(what, 0, 7)) {
            Lock k = m.locks.get(l);
            int[] all = {k.weight, k.kind, k.year, k.panel, k.bar, k.holder, k.gone ? 0 : m.bears(l), k.gone ? 1 : 0};
            want = all[what];
        }
        due(call("told", l, what), want, x.told(l, what));
        int p = some(0, m.panels.size() - 1);
        int b = some(0, 4);
        due(call("load", p, b), m.isPanel(p) && in(b, 0, 4) ? m.load(p, b) : BAD, x.load(p, b));
        int set = 0;
        for (int i = 0; i < m.locks.size(); i++) {
            Lock k = m.locks.get(i);
            set |= !k.gone && k.panel == p && k.bar == b ? 1 << i : 0;
        }
        due(call("on", p, b), m.isPanel(p) && in(b, 0, 2) ? set : BAD, x.on(p, b));
        due("over()", m.over(), x.over());
    }

    private void fall() {
        if (random.nextInt(4) == 0) {
            due("giveWay()", m.giveWay(), x.giveWay());
            return;
        }
        int l = some(0, m.locks.size() - 1);
        int want = !m.isLock(l) ? BAD : m.locks.get(l).gone ? NOT : m.drop(l);
        due(call("cut", l), want, x.cut(l));
    }

    private void count() {
        int what = some(0, 5);
        int gone = 0;
        int lettered = 0;
        for (Lock l : m.locks) {
            gone += l.gone ? 1 : 0;
            lettered += l.letters != null ? 1 : 0;
        }
        int[] all = {m.panels.size(), m.locks.size(), gone, m.sights.size(), m.people.size(), lettered};
        due(call("count", what), in(what, 0, 5) ? all[what] : BAD, x.count(what));
    }

    private void sight() {
        int p = some(0, m.panels.size() - 1);
        int want = BAD;
        if (random.nextBoolean()) {
            int seen = some(0, random.nextBoolean() ? 30 : 999);
            int hidden = some(0, random.nextBoolean() ? 30 : 999);
            if (m.isPanel(p) && in(seen, 0, 999) && in(hidden, 0, 999)) {
                want = see(new int[] {p, seen, hidden});
            }
            due(call("photo", p, seen, hidden), want, x.photo(p, seen, hidden));
            return;
        }
        int w = some(0, random.nextBoolean() ? 300 : 99999);
        int off = some(0, random.nextBoolean() ? 100 : 9999);
        int least = some(1, random.nextBoolean() ? 20 : 999);
        int most = random.nextInt(20) == 0 ? some(1, 999) : some(least, Math.max(least, Math.min(999, least + 20)));
        if (m.isPanel(p) && in(w, 0, 99999) && in(off, 0, 9999) && in(least, 1, 999) && in(most, 1, 999) && least <= most) {
            want = see(new int[] {p, w, off, least, most});
        }
        due(call("truck", p, w, off, least, most), want, x.truck(p, w, off, least, most));
    }

    private int see(int[] sight) {
        if (m.sights.size() == 12) {
            return FULL;
        }
        m.sights.add(sight);
        return m.sights.size();
    }

    private void span() {
        int p = some(0, m.panels.size() - 1);
        int what = some(0, 1);
        int w = some(1, random.nextBoolean() ? 30 : 999);
        int[] span = m.isPanel(p) ? m.span(p) : null;
        int want = !m.isPanel(p) || !in(what, 0, 1) ? BAD : span == null ? NONE : span[what];
        due(call("span", p, what), want, x.span(p, what));
        want = BAD;
        if (m.isPanel(p) && in(w, 1, 999)) {
            want = span == null ? NONE : (long) span[1] * w <= m.panels.get(p)[1] ? 1 : 0;
        }
        due(call("safe", p, w), want, x.safe(p, w));
    }

    private static final String[] NAMES = {"A", "B", "AB", "BA", "ANNA", "ANNE", "OTTO", "EVA", "IVA", "ABCDEF"};

    private String text(boolean two) {
        String[] names = {NAMES[random.nextInt(NAMES.length)], NAMES[random.nextInt(NAMES.length)]};
        for (int k = 0; k < 2 && m.people.size() > 1 && random.nextInt(5) != 0; k++) {
            names[k] = m.people.get(random.nextInt(m.people.size()));
        }
        StringBuilder b = new StringBuilder(two ? names[0] + "+" + names[1] : names[0]);
        for (int k = 0; k < b.length(); k++) {
            if (two && b.charAt(k) != '+' && random.nextInt(4) == 0) {
                b.setCharAt(k, '?');
            }
        }
        if (random.nextInt(6) == 0) {
            b.insert(random.nextInt(b.length() + 1), ' ');
        }
        if (random.nextInt(12) == 0) {
            b.insert(random.nextInt(b.length() + 1), "A?+a1[@ Z".charAt(random.nextInt(9)));
        }
        return b.toString();
    }

    private void type(String text) {
        int at = 0;
        while (at < text.length()) {
            int n = Math.min(1 + random.nextInt(8), text.length() - at);
            long w = random.nextInt(4) == 0 ? random.nextLong() : 0;
            for (int k = 0; k < n; k++) {
                w = w << 8 | text.charAt(at + k);
            }
            boolean fits = tape.length() + n <= 40;
            if (fits) {
                tape.append(text, at, at + n);
            }
            due(call("type", w, n), fits ? tape.length() : FULL, x.type(w, n));
            at += n;
        }
    }

    private void typeWrong() {
        long w = random.nextLong();
        int n = some(1, 8);
        boolean good = in(n, 1, 8);
        StringBuilder b = new StringBuilder();
        for (int k = n - 1; k >= 0 && good; k--) {
            int sign = (int) (w >>> 8 * k) & 255;
            good = in(sign, 32, 126);
            b.append((char) sign);
        }
        int want = BAD;
        if (good) {
            want = tape.length() + n > 40 ? FULL : tape.append(b).length();
        }
        due(call("type", w, n), want, x.type(w, n));
    }

    /** The least number of bytes behind which what comes can stand nowhere: -20 less the one that is too many. */
    private static int fault(String text, boolean two) {
        String head = two ? "[A-Z?]{0,6}|[A-Z?]{1,6}\\+[A-Z?]{0,6}" : "[A-Z]{0,6}";
        for (int k = 1; k <= text.length(); k++) {
            if (!text.substring(0, k).replace(" ", "").matches(head)) {
                return -20 - (k - 1);
            }
        }
        String whole = two ? "[A-Z?]{1,6}\\+[A-Z?]{1,6}" : "[A-Z]{1,6}";
        return text.replace(" ", "").matches(whole) ? 0 : -20 - text.length();
    }

    private void person() {
        type(text(random.nextInt(30) == 0));
        int want = fault(tape.toString(), false);
        if (want == 0 && m.people.size() == 8) {
            want = FULL;
        }
        if (want == 0) {
            want = m.people.size();
            m.people.add(tape.toString().replace(" ", ""));
        }
        tape.setLength(0);
        due("person()", want, x.person());
    }

    private void letters() {
        type(text(random.nextInt(30) != 0));
        int l = some(0, m.locks.size() - 1);
        int want = BAD;
        if (m.isLock(l)) {
            want = fault(tape.toString(), true);
            int others = 0;
            for (int i = 0; i < m.locks.size(); i++) {
                others += i != l && m.locks.get(i).letters != null ? 1 : 0;
            }
            if (want == 0 && others == 12) {
                want = FULL;
            }
            if (want == 0) {
                m.locks.get(l).letters = tape.toString().replace(" ", "");
                want = m.locks.get(l).letters.length() - 1;
            }
            tape.setLength(0);
        }
        due(call("letters", l), want, x.letters(l));
    }

    private void ways() {
        if (!m.tryWays()) {
            return;
        }
        due("ways()", m.ways, x.ways());
        int l = some(0, m.locks.size() - 1);
        boolean has = m.isLock(l) && m.locks.get(l).letters != null;
        due(call("readings", l), !m.isLock(l) ? BAD : !has ? NOT : m.readings(m.locks.get(l)).size(), x.readings(l));
        int what = some(0, 1);
        int want = !m.isLock(l) || !in(what, 0, 1) ? BAD : !has ? NOT : m.ways == 0 ? NONE : what == 0 ? m.some[l] : m.all[l];
        due(call("who", l, what), want, x.who(l, what));
        int p = some(0, m.people.size() - 1);
        want = BAD;
        if (in(p, 0, m.people.size() - 1) && in(what, 0, 1)) {
            want = 0;
            for (int i = 0; i < m.locks.size(); i++) {
                if (m.locks.get(i).letters != null && ((what == 0 ? m.some : m.all)[i] >> p & 1) != 0) {
                    want |= 1 << i;
                }
            }
            want = m.ways == 0 ? NONE : want;
        }
        due(call("where", p, what), want, x.where(p, what));
    }

    private void nights() {
        if (random.nextInt(5) == 0) {
            int v = some(1, 3);
            due(call("nightly", v), in(v, 1, 3) ? m.nightly : BAD, x.nightly(v));
            m.nightly = in(v, 1, 3) ? v : m.nightly;
            return;
        }
        int p = some(0, m.panels.size() - 1);
        int what = some(0, 2);
        int v = some(0, what == 0 ? random.nextInt(3) == 0 ? 2 : 99 : what == 1 ? 9 : 5);
        if (random.nextInt(3) == 0) {
            v = 0;
        }
        int want = BAD;
        if (m.isPanel(p) && in(what, 0, 2) && in(v, 0, what == 0 ? 99 : what == 1 ? 9 : 5)) {
            want = m.risks.get(p)[what];
            m.risks.get(p)[what] = v;
        }
        due(call("risk", p, what, v), want, x.risk(p, what, v));
    }

    private void order() {
        int n = m.panels.size();
        if (n > 4 && random.nextInt(60) != 0) {
            return;
        }
        m.bestNights = null;
        m.tryNights(0, new int[n]);
        for (int p = -2; p <= n; p++) {
            int want = !in(p, -1, n - 1) ? BAD : n == 0 ? NOT : p < 0 ? m.bestCost : m.bestNights[p];
            due(call("order", p), want, x.order(p));
        }
    }

    private void month() {
        int t = some(0, 11);
        int least = random.nextInt(3) == 0 ? some(0, 9999) : 50 + 15 * Math.max(0, Math.min(11, t)) + random.nextInt(20);
        int most = random.nextInt(4) == 0 ? 9999 : least + random.nextInt(60);
        int want = BAD;
        if (in(t, 0, 11) && in(least, 0, 9999) && in(most, 0, 9999) && least <= most) {
            want = 1;
            m.months[t] = new int[] {least, most};
        }
        due(call("month", t, least, most), want, x.month(t, least, most));
    }

    private void laws() {
        m.tryLaws();
        int what = some(0, 2);
        int want = !in(what, 0, 2) ? BAD : what == 0 ? m.laws : m.laws == 0 ? NONE : what == 1 ? m.firstA : m.firstS;
        due(call("laws", what), want, x.laws(what));
        for (int t = -1; t <= 12; t++) {
            int w = some(0, 1);
            long grown = !in(t, 0, 11) || !in(w, 0, 1) ? BAD : m.laws == 0 ? NONE : w == 0 ? m.low[t] : m.high[t];
            due(call("grown", t, w), grown, x.grown(t, w));
        }
    }

    private void ask() {
        int set = some(0, (1 << m.locks.size()) - 1);
        for (int i = 0; i < m.locks.size() && random.nextInt(10) != 0; i++) {
            if (m.locks.get(i).gone) {
                set &= ~(1 << i);
            }
        }
        int what = some(0, 1);
        due(call("ask", set, what), m.isSought(set) && in(what, 0, 1) ? m.ask(set)[what] : BAD, x.ask(set, what));
        int want = BAD;
        if (m.isSought(set)) {
            want = m.needed(set, new HashMap<>());
            want = want >= 1000 ? NONE : want;
        }
        due(call("needed", set), want, x.needed(set));
    }

    private void stolen() {
        int p = some(0, m.panels.size() - 1);
        int b = some(0, 2);
        int load = some(0, m.isPanel(p) && in(b, 0, 2) ? m.load(p, b) : 99999);
        if (m.isPanel(p) && in(b, 0, 2) && random.nextInt(10) != 0) {
            load = Math.max(0, m.load(p, b) - random.nextInt(20));
        }
        int what = some(0, 2);
        int want = BAD;
        if (m.isPanel(p) && in(b, 0, 2) && in(load, 0, 99999) && in(what, 0, 2)) {
            Set<Integer> loots = m.loots(p, b, load);
            int all = -1;
            int any = 0;
            for (int loot : loots) {
                all &= loot;
                any |= loot;
            }
            want = what == 0 ? loots.size() : loots.isEmpty() ? NONE : what == 1 ? all : any;
        }
        due(call("stolen", p, b, load, what), want, x.stolen(p, b, load, what));
    }

    private void image() {
        if (random.nextInt(3) == 0) {
            image = m.copy();
            due("image()", 1, x.image());
            return;
        }
        due("restore()", image == null ? NONE : 1, x.restore());
        m = image == null ? m : image.copy();
    }

    private static int laneOf(Object sheet) {
        return sheet instanceof byte[] ? 0 : sheet instanceof short[] ? 1 : 2;
    }

    private static int sizeOf(Object sheet) {
        return java.lang.reflect.Array.getLength(sheet);
    }

    private static int at(Object sheet, int i) {
        return ((Number) java.lang.reflect.Array.get(sheet, i)).intValue();
    }

    private static void put(Object sheet, int i, int v) {
        if (sheet instanceof byte[] b) {
            b[i] = (byte) v;
        } else if (sheet instanceof short[] s) {
            s[i] = (short) v;
        } else {
            ((int[]) sheet)[i] = v;
        }
    }

    private void sheet() {
        int s = some(0, 3);
        int lane = random.nextInt(3) == 0 ? some(0, 2) : 1;
        int n = some(0, 24);
        int want = !in(s, 0, 3) || !in(lane, 0, 2) || n > 24 ? BAD : n < 0 ? SIZE : n;
        if (want >= 0) {
            sheets[s] = lane == 0 ? new byte[n] : lane == 1 ? new short[n] : (Object) new int[n];
        }
        due(call("sheet", s, lane, n), want, x.sheet(s, lane, n));
    }

    private void item() {
        int s = some(0, 3);
        Object o = in(s, 0, 3) ? sheets[s] : null;
        int lane = random.nextInt(8) == 0 || o == null ? some(0, 2) : laneOf(o);
        int i = some(0, o == null ? 3 : sizeOf(o) - 1);
        int v = random.nextInt(6) == 0 ? random.nextInt() : some(0, 9999);
        int want = faultOf(s, lane, i, 1);
        if (want == 0) {
            put(o, i, v);
            want = 1;
        }
        due(call("item", s, lane, i, v), want, x.item(s, lane, i, v));
    }

    private int faultOf(int s, int lane, int i, long n) {
        if (!in(s, 0, 3) || !in(lane, 0, 2)) {
            return BAD;
        }
        if (sheets[s] == null) {
            return NULL;
        }
        if (laneOf(sheets[s]) != lane) {
            return CAST;
        }
        return i < 0 || n < 0 || i + n > sizeOf(sheets[s]) ? INDEX : 0;
    }

    private void copy() {
        int from = some(0, 3);
        int to = some(0, 3);
        int i = some(0, 8);
        int j = some(0, 8);
        int n = some(0, 8);
        int want;
        if (!in(from, 0, 3) || !in(to, 0, 3)) {
            want = BAD;
        } else if (sheets[from] == null || sheets[to] == null) {
            want = NULL;
        } else if (laneOf(sheets[from]) != laneOf(sheets[to])) {
            want = CAST;
        } else if (faultOf(from, laneOf(sheets[from]), i, n) != 0 || faultOf(to, laneOf(sheets[to]), j, n) != 0) {
            want = INDEX;
        } else {
            int[] taken = new int[n];
            for (int k = 0; k < n; k++) {
                taken[k] = at(sheets[from], i + k);
            }
            for (int k = 0; k < n; k++) {
                put(sheets[to], j + k, taken[k]);
            }
            want = n;
        }
        due(call("copy", from, i, to, j, n), want, x.copy(from, i, to, j, n));
    }

    private void drop() {
        int s = some(0, 3);
        int want = !in(s, 0, 3) ? BAD : sheets[s] == null ? NULL : sizeOf(sheets[s]);
        if (want >= 0) {
            sheets[s] = null;
        }
        due(call("drop", s), want, x.drop(s));
    }

    private void months() {
        int s = some(0, 3);
        Object o = in(s, 0, 3) ? sheets[s] : null;
        int lane = random.nextInt(8) == 0 || o == null ? some(0, 2) : laneOf(o);
        int i = some(0, o == null ? 3 : sizeOf(o));
        int n = some(1, random.nextBoolean() ? 2 : 12);
        int want = in(n, 1, 12) ? faultOf(s, lane, i, 2L * n) : BAD;
        for (int k = 0; k < n && want == 0; k++) {
            int least = at(o, i + 2 * k);
            int most = at(o, i + 2 * k + 1);
            want = in(least, 0, 9999) && in(most, least, 9999) ? 0 : NOT;
        }
        for (int k = 0; k < n && want >= 0; k++) {
            want = n;
            m.months[k] = new int[] {at(o, i + 2 * k), at(o, i + 2 * k + 1)};
        }
        due(call("months", s, lane, i, n), want, x.months(s, lane, i, n));
    }

    private void railCall() {
        int r = random.nextInt(30);
        if (r < 4 || m.panels.isEmpty()) {
            panel();
        } else if (r < 10) {
            hang();
        } else if (r < 16) {
            hangOn();
        } else if (r < 22) {
            railTold();
        } else if (r < 25) {
            fall();
        } else {
            count();
        }
    }

    private void otherCall() {
        switch (random.nextInt(20)) {
            case 0: case 1: sight(); break;
            case 2: span(); break;
            case 3: case 4: person(); break;
            case 5: case 6: case 7: letters(); break;
            case 8: ways(); break;
            case 9: case 10: nights(); break;
            case 11: order(); break;
            case 12: month(); break;
            case 13: if (random.nextInt(12) == 0) { laws(); } break;
            case 14: case 15: ask(); break;
            case 16: stolen(); break;
            case 17: image(); break;
            case 18: typeWrong(); break;
            default: break;
        }
    }

    private void sheetCall() {
        switch (random.nextInt(10)) {
            case 0: sheet(); break;
            case 1: case 2: case 3: case 4: case 5: item(); break;
            case 6: copy(); break;
            case 7: months(); break;
            case 8: if (random.nextInt(3) == 0) { drop(); } break;
            default: break;
        }
    }

    /** Full of names, or of brass on one bar: what random calls seldom come to. */
    private void scene() {
        if (seed % 3 == 0) {
            return;
        }
        x.panel(99999, 99999, 99999);
        m.panels.add(new int[] {99999, 99999, 99999});
        m.risks.add(new int[3]);
        story.append("  panel(99999, 99999, 99999)\n");
        int locks = 3 + random.nextInt(12);
        for (int k = 0; k < locks; k++) {
            int w = 1 + random.nextInt(4);
            int kind = random.nextInt(3) == 0 ? 1 : 0;
            int y = seed % 3 == 1 ? random.nextInt(6) : random.nextInt(20);
            int bar = random.nextInt(8) == 0 ? 1 : 0;
            if (k > 0 && random.nextInt(5) < 3) {
                int l = random.nextInt(k);
                due(call("hangOn", l, w, kind, y), add(0, m.locks.get(l).bar, l, w, kind, y), x.hangOn(l, w, kind, y));
            } else {
                due(call("hang", 0, bar, w, kind, y), add(0, bar, -4, w, kind, y), x.hang(0, bar, w, kind, y));
            }
        }
        for (int k = 0; k < 45; k++) {
            if (seed % 3 == 2) {
                stolen();
                ask();
            } else if (k < 8) {
                person();
            } else if (k < 30) {
                letters();
                ways();
            } else {
                ways();
            }
        }
    }

    private boolean run() {
        scene();
        for (int k = 0; k < 160 && !wrong; k++) {
            int r = random.nextInt(10);
            if (r < 4) {
                railCall();
            } else if (r < 8) {
                otherCall();
            } else {
                sheetCall();
            }
        }
        return !wrong;
    }

    public static void main(String[] args) {
        int runs = args.length > 0 ? Integer.parseInt(args[0]) : 200;
        int first = args.length > 1 ? Integer.parseInt(args[1]) : 1;
        int bad = 0;
        for (int seed = first; seed < first + runs && bad < 3; seed++) {
            bad += new ModelRuns(seed).run() ? 0 : 1;
        }
        System.out.println(bad == 0 ? runs + " runs are as the model says" : "runs differ from the model");
        if (bad != 0) {
            System.exit(1);
        }
    }
}
