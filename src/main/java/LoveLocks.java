import java.util.Arrays;

public final class LoveLocks {
    public static final int BAD = -1, NOT = -2, FULL = -3, NONE = -4, NULL = -11, CAST = -12, INDEX = -13, SIZE = -14;

    private static final int PANELS = 6, BARS = 3, LOCKS = 14, SIGHTS = 12, PEOPLE = 8, LETTERED = 12;
    private static final int LIMIT = 99999, WEIGHT = 999, YEARS = 20;
    private static final int NIGHTS = 12, MONTHS = 12, COUNT = 9999;
    private static final int TAPE = 40, NAME = 6, FAULT = -20, BLANK = 32;
    private static final int SHEETS = 4, ITEMS = 24;

    private final State now = new State();
    private final State kept = new State();
    private boolean hasImage;
    private final Reader reader = new Reader();
    private final Seeker seeker = new Seeker();
    private final Looter looter = new Looter();
    private final Tape tape = new Tape();
    private final Sheets sheets = new Sheets();

    public LoveLocks() {
    }

    private static boolean within(int v, int least, int most) {
        return v >= least && v <= most;
    }

    // ---- 1 the rail

    public int panel(int bar, int all, int sag) {
        if (!within(bar, 1, LIMIT) || !within(all, 1, LIMIT) || !within(sag, 1, LIMIT)) {
            return BAD;
        }
        return now.rail.addPanel(bar, all, sag);
    }

    private static boolean isLock(int weight, int kind, int year) {
        return within(weight, 1, WEIGHT) && within(kind, 0, 1) && within(year, 0, YEARS - 1);
    }

    private boolean isBar(int panel, int bar) {
        return now.rail.hasPanel(panel) && within(bar, 0, BARS - 1);
    }

    public int hang(int panel, int bar, int weight, int kind, int year) {
        if (!isBar(panel, bar) || !isLock(weight, kind, year)) {
            return BAD;
        }
        return now.rail.addToBar(panel, bar, weight, kind, year);
    }

    public int hangOn(int lock, int weight, int kind, int year) {
        if (!now.rail.hasLock(lock) || !isLock(weight, kind, year)) {
            return BAD;
        }
        if (now.rail.isGone(lock)) {
            return NOT;
        }
        return now.rail.addToLock(lock, weight, kind, year);
    }

    public int told(int lock, int what) {
        return now.rail.hasLock(lock) ? now.rail.tell(lock, what) : BAD;
    }

    public int load(int panel, int what) {
        return now.rail.hasPanel(panel) ? now.rail.loadOf(panel, what) : BAD;
    }

    public int on(int panel, int bar) {
        return isBar(panel, bar) ? now.rail.hangingAt(panel, bar) : BAD;
    }

    public int cut(int lock) {
        if (!now.rail.hasLock(lock)) {
            return BAD;
        }
        return now.rail.isGone(lock) ? NOT : now.rail.fall(now.rail.withAllOn(lock));
    }

    public int over() {
        return now.rail.firstOver();
    }

    public int giveWay() {
        return now.rail.fallWhileOver();
    }

    public int count(int what) {
        switch (what) {
            case 0: return now.rail.panels;
            case 1: return now.rail.locks;
            case 2: return Integer.bitCount(now.rail.gone);
            case 3: return now.sights.sights;
            case 4: return now.names.people;
            case 5: return Integer.bitCount(now.names.lettered);
            default: return BAD;
        }
    }

    // ---- 2 sights

    public int photo(int panel, int seen, int hidden) {
        if (!now.rail.hasPanel(panel) || !within(seen, 0, 999) || !within(hidden, 0, 999)) {
            return BAD;
        }
        return now.sights.add(panel, seen, seen + hidden);
    }

    public int truck(int panel, int weight, int off, int least, int most) {
        if (!now.rail.hasPanel(panel) || !within(weight, 0, 99999) || !within(off, 0, 9999)
                || !within(least, 1, WEIGHT) || !within(most, least, WEIGHT)) {
            return BAD;
        }
        int light = Math.max(0, weight - off);
        return now.sights.add(panel, (light + most - 1) / most, (weight + off) / least);
    }

    public int span(int panel, int what) {
        if (!now.rail.hasPanel(panel) || !within(what, 0, 1)) {
            return BAD;
        }
        if (!now.sights.hasSpan(panel)) {
            return NONE;
        }
        return what == 0 ? now.sights.leastOf(panel) : now.sights.mostOf(panel);
    }

    public int safe(int panel, int weight) {
        if (!now.rail.hasPanel(panel) || !within(weight, 1, WEIGHT)) {
            return BAD;
        }
        if (!now.sights.hasSpan(panel)) {
            return NONE;
        }
        return now.sights.mostOf(panel) * weight <= now.rail.allLimit[panel] ? 1 : 0;
    }

    // ---- 3 names

    public int type(long w, int n) {
        return tape.add(w, n);
    }

    public int person() {
        int fault = tape.readName();
        tape.length = 0;
        return fault < 0 ? fault : now.names.addPerson(tape.first);
    }

    public int letters(int lock) {
        if (!now.rail.hasLock(lock)) {
            return BAD;
        }
        int found = tape.readPair();
        tape.length = 0;
        if (found < 0) {
            return found;
        }
        return now.names.putLetters(lock, tape.first, tape.second) ? found : FULL;
    }

    public int readings(int lock) {
        if (!now.rail.hasLock(lock)) {
            return BAD;
        }
        return now.names.hasLetters(lock) ? now.names.readingsOf(lock) : NOT;
    }

    public long ways() {
        reader.findWays(now.names, now.rail);
        return reader.ways;
    }

    public int who(int lock, int what) {
        if (!now.rail.hasLock(lock) || !within(what, 0, 1)) {
            return BAD;
        }
        if (!now.names.hasLetters(lock)) {
            return NOT;
        }
        reader.findWays(now.names, now.rail);
        return reader.ways == 0 ? NONE : reader.peopleOn(lock, what);
    }

    public int where(int person, int what) {
        if (!within(person, 0, now.names.people - 1) || !within(what, 0, 1)) {
            return BAD;
        }
        reader.findWays(now.names, now.rail);
        return reader.ways == 0 ? NONE : reader.locksOf(person, what);
    }

    // ---- 4 cuts, growth

    public int nightly(int v) {
        return now.nights.setNightly(v);
    }

    public int risk(int panel, int what, int v) {
        return now.rail.hasPanel(panel) ? now.nights.setTerm(panel, what, v) : BAD;
    }

    public int order(int panel) {
        if (panel != -1 && !now.rail.hasPanel(panel)) {
            return BAD;
        }
        if (now.rail.panels == 0) {
            return NOT;
        }
        now.nights.plan(now.rail.panels);
        return panel == -1 ? now.nights.costInAll() : now.nights.nightOf(panel);
    }

    public int month(int month, int least, int most) {
        if (!within(month, 0, MONTHS - 1) || !Growth.isCount(least, most)) {
            return BAD;
        }
        now.growth.put(month, least, most);
        return 1;
    }

    public int laws(int what) {
        return within(what, 0, 2) ? now.growth.lawsThatFit(what) : BAD;
    }

    public long grown(int month, int what) {
        if (!within(month, 0, MONTHS - 1) || !within(what, 0, 1)) {
            return BAD;
        }
        return now.growth.farthest(month, what);
    }

    // ---- 5 sought, stolen

    private boolean isSought(int set) {
        int hanging = ((1 << now.rail.locks) - 1) & ~now.rail.gone;
        return set > 0 && (set & ~hanging) == 0;
    }

    public int ask(int set, int what) {
        if (!isSought(set) || !within(what, 0, 1)) {
            return BAD;
        }
        seeker.learn(now.rail);
        int best = seeker.bestQuestion(set);
        return what == 0 ? Seeker.numberOf(best) : seeker.leftAtWorst(set, best);
    }

    public int needed(int set) {
        if (!isSought(set)) {
            return BAD;
        }
        seeker.learn(now.rail);
        return seeker.questionsFor(set);
    }

    public int stolen(int panel, int bar, int load, int what) {
        if (!isBar(panel, bar) || !within(load, 0, 99999) || !within(what, 0, 2)) {
            return BAD;
        }
        looter.findLoots(now.rail, now.rail.hangingAt(panel, bar), load);
        if (what == 0) {
            return looter.loots;
        }
        if (looter.loots == 0) {
            return NONE;
        }
        return what == 1 ? looter.inAll : looter.inSome;
    }

    public int image() {
        kept.takeOver(now);
        hasImage = true;
        return 1;
    }

    public int restore() {
        if (!hasImage) {
            return NONE;
        }
        now.takeOver(kept);
        return 1;
    }

    // ---- 6 sheets

    private static boolean isSheet(int sheet) {
        return within(sheet, 0, SHEETS - 1);
    }

    private static boolean isLane(int lane) {
        return within(lane, 0, 2);
    }

    public int months(int sheet, int lane, int i, int n) {
        if (!isSheet(sheet) || !isLane(lane) || !within(n, 1, MONTHS)) {
            return BAD;
        }
        int fault = sheets.faultOf(sheet, lane, i, 2 * n);
        if (fault < 0) {
            return fault;
        }
        for (int m = 0; m < n; m++) {
            if (!Growth.isCount(sheets.at(sheet, i + 2 * m), sheets.at(sheet, i + 2 * m + 1))) {
                return NOT;
            }
        }
        for (int m = 0; m < n; m++) {
            now.growth.put(m, sheets.at(sheet, i + 2 * m), sheets.at(sheet, i + 2 * m + 1));
        }
        return n;
    }

    public int sheet(int sheet, int lane, int n) {
        if (!isSheet(sheet) || !isLane(lane) || n > ITEMS) {
            return BAD;
        }
        if (n < 0) {
            return SIZE;
        }
        sheets.renew(sheet, lane, n);
        return n;
    }

    public int drop(int sheet) {
        if (!isSheet(sheet)) {
            return BAD;
        }
        return sheets.holds(sheet) ? sheets.clear(sheet) : NULL;
    }

    public int item(int sheet, int lane, int i, int v) {
        if (!isSheet(sheet) || !isLane(lane)) {
            return BAD;
        }
        int fault = sheets.faultOf(sheet, lane, i, 1);
        if (fault < 0) {
            return fault;
        }
        sheets.put(sheet, i, v);
        return 1;
    }

    public int copy(int from, int i, int to, int j, int n) {
        if (!isSheet(from) || !isSheet(to)) {
            return BAD;
        }
        if (!sheets.holds(from) || !sheets.holds(to)) {
            return NULL;
        }
        int lane = sheets.laneOf(from);
        int fault = sheets.faultOf(to, lane, j, n);
        if (fault == 0) {
            fault = sheets.faultOf(from, lane, i, n);
        }
        if (fault < 0) {
            return fault;
        }
        sheets.move(from, i, to, j, n);
        return n;
    }

    /** In one place, so that an image is kept, and taken back, in one step. */
    private static final class State {
        final Rail rail = new Rail();
        final Sights sights = new Sights();
        final Names names = new Names();
        final Nights nights = new Nights();
        final Growth growth = new Growth();

        void takeOver(State from) {
            rail.takeOver(from.rail);
            sights.takeOver(from.sights);
            names.takeOver(from.names);
            nights.takeOver(from.nights);
            growth.takeOver(from.growth);
        }
    }

    private static final class Rail {
        int panels;
        final int[] barLimit = new int[PANELS];
        final int[] allLimit = new int[PANELS];
        final int[] sagLimit = new int[PANELS];
        int locks;
        int gone;
        final int[] weight = new int[LOCKS];
        final int[] kind = new int[LOCKS];
        final int[] year = new int[LOCKS];
        final int[] panelOf = new int[LOCKS];
        final int[] barOf = new int[LOCKS];
        final int[] holder = new int[LOCKS];

        void takeOver(Rail from) {
            panels = from.panels;
            System.arraycopy(from.barLimit, 0, barLimit, 0, PANELS);
            System.arraycopy(from.allLimit, 0, allLimit, 0, PANELS);
            System.arraycopy(from.sagLimit, 0, sagLimit, 0, PANELS);
            locks = from.locks;
            gone = from.gone;
            System.arraycopy(from.weight, 0, weight, 0, LOCKS);
            System.arraycopy(from.kind, 0, kind, 0, LOCKS);
            System.arraycopy(from.year, 0, year, 0, LOCKS);
            System.arraycopy(from.panelOf, 0, panelOf, 0, LOCKS);
            System.arraycopy(from.barOf, 0, barOf, 0, LOCKS);
            System.arraycopy(from.holder, 0, holder, 0, LOCKS);
        }

        boolean hasPanel(int p) {
            return p >= 0 && p < panels;
        }

        boolean hasLock(int l) {
            return l >= 0 && l < locks;
        }

        boolean isGone(int l) {
            return (gone >> l & 1) != 0;
        }

        int addPanel(int bar, int all, int sag) {
            if (panels >= PANELS) {
                return FULL;
            }
            barLimit[panels] = bar;
            allLimit[panels] = all;
            sagLimit[panels] = sag;
            return panels++;
        }

        int addToBar(int p, int b, int w, int k, int y) {
            if (locks >= LOCKS) {
                return FULL;
            }
            panelOf[locks] = p;
            barOf[locks] = b;
            holder[locks] = NONE;
            weight[locks] = w;
            kind[locks] = k;
            year[locks] = y;
            return locks++;
        }

        int addToLock(int l, int w, int k, int y) {
            int added = addToBar(panelOf[l], barOf[l], w, k, y);
            if (added >= 0) {
                holder[added] = l;
            }
            return added;
        }

        int tell(int l, int what) {
            switch (what) {
                case 0: return weight[l];
                case 1: return kind[l];
                case 2: return year[l];
                case 3: return panelOf[l];
                case 4: return barOf[l];
                case 5: return holder[l];
                case 6: return borneBy(l);
                case 7: return isGone(l) ? 1 : 0;
                default: return BAD;
            }
        }

        /** One pass is enough, for a lock comes behind the one on which it hangs. */
        int withAllOn(int l) {
            int set = 1 << l;
            for (int i = l + 1; i < locks; i++) {
                if (!isGone(i) && holder[i] >= 0 && (set >> holder[i] & 1) != 0) {
                    set |= 1 << i;
                }
            }
            return set;
        }

        int weightOf(int set) {
            int sum = 0;
            for (int i = 0; i < locks; i++) {
                if ((set >> i & 1) != 0) {
                    sum += weight[i];
                }
            }
            return sum;
        }

        int borneBy(int l) {
            return weightOf(withAllOn(l)) - weight[l];
        }

        int hangingAt(int p, int b) {
            int set = 0;
            for (int i = 0; i < locks; i++) {
                if (!isGone(i) && panelOf[i] == p && barOf[i] == b) {
                    set |= 1 << i;
                }
            }
            return set;
        }

        int barLoad(int p, int b) {
            return weightOf(hangingAt(p, b));
        }

        int panelLoad(int p) {
            return barLoad(p, 0) + barLoad(p, 1) + barLoad(p, 2);
        }

        int sagOf(int p) {
            return barLoad(p, 0) + 2 * barLoad(p, 1) + barLoad(p, 2);
        }

        int loadOf(int p, int what) {
            switch (what) {
                case 0:
                case 1:
                case 2: return barLoad(p, what);
                case 3: return panelLoad(p);
                case 4: return sagOf(p);
                default: return BAD;
            }
        }

        private boolean isOver(int l) {
            return !isGone(l) && borneBy(l) > weight[l] * (kind[l] == 0 ? 5 : 9);
        }

        int firstOver() {
            for (int l = 0; l < locks; l++) {
                if (isOver(l)) {
                    return l;
                }
            }
            for (int p = 0; p < panels; p++) {
                for (int b = 0; b < BARS; b++) {
                    if (barLoad(p, b) > barLimit[p]) {
                        return 100 + 10 * p + b;
                    }
                }
            }
            for (int p = 0; p < panels; p++) {
                if (panelLoad(p) > allLimit[p] || sagOf(p) > sagLimit[p]) {
                    return 200 + p;
                }
            }
            return NONE;
        }

        private int hangingFrom(int over) {
            if (over < 100) {
                return withAllOn(over);
            }
            if (over < 200) {
                return hangingAt((over - 100) / 10, (over - 100) % 10);
            }
            return hangingAt(over - 200, 0) | hangingAt(over - 200, 1) | hangingAt(over - 200, 2);
        }

        int fall(int set) {
            int ahead = Integer.bitCount(gone);
            gone |= set;
            return Integer.bitCount(gone) - ahead;
        }

        int fallWhileOver() {
            int fallen = 0;
            int over = firstOver();
            // each turn takes one lock at least
            for (int turn = 0; turn < LOCKS && over != NONE; turn++) {
                fallen += fall(hangingFrom(over));
                over = firstOver();
            }
            return fallen;
        }
    }

    /** A sight can but narrow a span: so no sight is kept, just the span of each panel. */
    private static final class Sights {
        int sights;
        private final int[] of = new int[PANELS];
        private final int[] least = new int[PANELS];
        private final int[] most = new int[PANELS];

        void takeOver(Sights from) {
            sights = from.sights;
            System.arraycopy(from.of, 0, of, 0, PANELS);
            System.arraycopy(from.least, 0, least, 0, PANELS);
            System.arraycopy(from.most, 0, most, 0, PANELS);
        }

        int add(int p, int from, int to) {
            if (sights >= SIGHTS) {
                return FULL;
            }
            least[p] = of[p] == 0 ? from : Math.max(least[p], from);
            most[p] = of[p] == 0 ? to : Math.min(most[p], to);
            of[p]++;
            sights++;
            return sights;
        }

        int leastOf(int p) {
            return of[p] == 0 ? 0 : least[p];
        }

        int mostOf(int p) {
            return of[p] == 0 ? 99999 : most[p];
        }

        boolean hasSpan(int p) {
            return leastOf(p) <= mostOf(p);
        }
    }

    /** A name is its bytes in a long, the last one lowest: of unlike lengths, one has a byte 0 where another has none. */
    private static final class Names {
        int people;
        int lettered;
        private final long[] name = new long[PEOPLE];
        private final long[] first = new long[LOCKS];
        private final long[] second = new long[LOCKS];

        void takeOver(Names from) {
            people = from.people;
            lettered = from.lettered;
            System.arraycopy(from.name, 0, name, 0, PEOPLE);
            System.arraycopy(from.first, 0, first, 0, LOCKS);
            System.arraycopy(from.second, 0, second, 0, LOCKS);
        }

        int addPerson(long text) {
            if (people >= PEOPLE) {
                return FULL;
            }
            name[people] = text;
            return people++;
        }

        boolean hasLetters(int l) {
            return (lettered >> l & 1) != 0;
        }

        boolean putLetters(int l, long one, long other) {
            if (Integer.bitCount(lettered & ~(1 << l)) >= LETTERED) {
                return false;
            }
            lettered |= 1 << l;
            first[l] = one;
            second[l] = other;
            return true;
        }

        private static boolean agree(long text, long name) {
            for (int at = 0; at < 8 * NAME; at += 8) {
                long worn = text >> at & 255;
                long letter = name >> at & 255;
                if (worn != letter && (worn != '?' || letter == 0)) {
                    return false;
                }
            }
            return true;
        }

        private int allWhoAgree(long text) {
            int set = 0;
            for (int p = 0; p < people; p++) {
                if (agree(text, name[p])) {
                    set |= 1 << p;
                }
            }
            return set;
        }

        int peopleOfFirst(int l) {
            return allWhoAgree(first[l]);
        }

        int peopleOfSecond(int l) {
            return allWhoAgree(second[l]);
        }

        int readingsOf(int l) {
            int one = peopleOfFirst(l);
            int other = peopleOfSecond(l);
            int found = 0;
            for (int p = 0; p < people; p++) {
                for (int q = p + 1; q < people; q++) {
                    if (canBe(one, other, p, q)) {
                        found++;
                    }
                }
            }
            return found;
        }

        static boolean canBe(int one, int other, int p, int q) {
            return (one >> p & other >> q & 1) != 0 || (one >> q & other >> p & 1) != 0;
        }
    }

    /** Locks of unlike years don't hinder one another: each year is read alone, and the ways are multiplied. */
    private static final class Reader {
        long ways;
        private int people;
        private int lettered;
        private final int[] one = new int[LOCKS];
        private final int[] other = new int[LOCKS];
        private final int[] pair = new int[LOCKS];
        private final int[] some = new int[LOCKS];
        private final int[] all = new int[LOCKS];

        void findWays(Names names, Rail rail) {
            people = names.people;
            lettered = names.lettered;
            for (int l = 0; l < LOCKS; l++) {
                one[l] = names.peopleOfFirst(l);
                other[l] = names.peopleOfSecond(l);
                some[l] = 0;
                all[l] = -1;
            }
            ways = 1;
            for (int y = 0; y < YEARS; y++) {
                int group = lettered & locksOfYear(rail, y);
                if (group != 0) {
                    ways *= waysToRead(this, group, group, 0, 0);
                }
            }
        }

        private static int locksOfYear(Rail rail, int y) {
            int set = 0;
            for (int l = 0; l < rail.locks && l < LOCKS; l++) {
                if (rail.year[l] == y) {
                    set |= 1 << l;
                }
            }
            return set;
        }

        private static long waysToRead(Reader r, int group, int left, int taken, int depth) {
            if (left == 0) {
                r.keepPairs(group);
                return 1;
            }
            if (depth >= LOCKS || 2 * Integer.bitCount(left) > r.people - Integer.bitCount(taken)) {
                return 0;
            }
            int l = Integer.numberOfTrailingZeros(left);
            long found = 0;
            for (int p = 0; p < r.people; p++) {
                for (int q = p + 1; q < r.people; q++) {
                    int two = 1 << p | 1 << q;
                    if ((taken & two) == 0 && Names.canBe(r.one[l], r.other[l], p, q)) {
                        r.pair[l] = two;
                        found += waysToRead(r, group, left & ~(1 << l), taken | two, depth + 1);
                    }
                }
            }
            return found;
        }

        private void keepPairs(int group) {
            for (int l = 0; l < LOCKS; l++) {
                if ((group >> l & 1) != 0) {
                    some[l] |= pair[l];
                    all[l] &= pair[l];
                }
            }
        }

        int peopleOn(int l, int what) {
            return what == 0 ? some[l] : all[l];
        }

        int locksOf(int person, int what) {
            int set = 0;
            for (int l = 0; l < LOCKS; l++) {
                if ((lettered >> l & 1) != 0 && (peopleOn(l, what) >> person & 1) != 0) {
                    set |= 1 << l;
                }
            }
            return set;
        }
    }

    private static final class Nights {
        private static final int NEVER = 1000000, SETS = 1 << PANELS;
        private int nightly = 2;
        private final int[] risk = new int[PANELS];
        private final int[] grows = new int[PANELS];
        private final int[] till = new int[PANELS];
        private final int[][] cost = new int[NIGHTS + 1][SETS];
        private final int[][] choice = new int[NIGHTS][SETS];
        private final int[] waiting = new int[SETS];
        private final int[] night = new int[PANELS];
        private int inAll;

        void takeOver(Nights from) {
            nightly = from.nightly;
            System.arraycopy(from.risk, 0, risk, 0, PANELS);
            System.arraycopy(from.grows, 0, grows, 0, PANELS);
            System.arraycopy(from.till, 0, till, 0, PANELS);
        }

        int setNightly(int v) {
            if (v < 1 || v > 3) {
                return BAD;
            }
            int was = nightly;
            nightly = v;
            return was;
        }

        int setTerm(int p, int what, int v) {
            switch (what) {
                case 0: return change(risk, p, v, 99);
                case 1: return change(grows, p, v, 9);
                case 2: return change(till, p, v, 5);
                default: return BAD;
            }
        }

        private static int change(int[] row, int p, int v, int most) {
            if (v < 0 || v > most) {
                return BAD;
            }
            int was = row[p];
            row[p] = v;
            return was;
        }

        int costInAll() {
            return inAll;
        }

        int nightOf(int p) {
            return night[p];
        }

        /** From the last night back, for what is still to be paid hangs but on the panels that are left. */
        void plan(int panels) {
            int sets = 1 << panels;
            Arrays.fill(cost[NIGHTS], NEVER);
            cost[NIGHTS][0] = 0;
            for (int n = NIGHTS - 1; n >= 0; n--) {
                int open = 0;
                for (int p = 0; p < panels; p++) {
                    open |= till[p] <= n ? 1 << p : 0;
                }
                for (int left = 0; left < sets; left++) {
                    waiting[left] = costOfWaiting(left, n);
                }
                for (int left = 0; left < sets; left++) {
                    chooseBest(n, left, open);
                }
            }
            followChoices(sets - 1);
        }

        private int costOfWaiting(int left, int n) {
            int sum = 0;
            for (int p = 0; p < PANELS; p++) {
                if ((left >> p & 1) != 0) {
                    sum += risk[p] + n * grows[p];
                }
            }
            return sum;
        }

        private void chooseBest(int n, int left, int open) {
            int best = NEVER;
            int least = 0;
            // upwards, so that of like ones the least set stays
            for (int set = 0; set <= left; set++) {
                if ((set & ~(left & open)) == 0 && Integer.bitCount(set) <= nightly) {
                    int rest = left & ~set;
                    int sum = waiting[rest] + cost[n + 1][rest];
                    if (sum < best) {
                        best = sum;
                        least = set;
                    }
                }
            }
            cost[n][left] = best;
            choice[n][left] = least;
        }

        private void followChoices(int all) {
            inAll = cost[0][all];
            int left = all;
            for (int n = 0; n < NIGHTS; n++) {
                int set = choice[n][left];
                for (int p = 0; p < PANELS; p++) {
                    if ((set >> p & 1) != 0) {
                        night[p] = n;
                    }
                }
                left &= ~set;
            }
        }
    }

    private static final class Growth {
        private static final int ANY = 1000000, RATES = 20, ADDED = 9;
        private final int[] least = new int[MONTHS];
        private final int[] most = new int[MONTHS];
        private int lowest;
        private int highest;

        Growth() {
            Arrays.fill(most, ANY);
            most[0] = COUNT;
        }

        void takeOver(Growth from) {
            System.arraycopy(from.least, 0, least, 0, MONTHS);
            System.arraycopy(from.most, 0, most, 0, MONTHS);
        }

        static boolean isCount(int from, int to) {
            return from >= 0 && from <= to && to <= COUNT;
        }

        void put(int m, int from, int to) {
            least[m] = from;
            most[m] = to;
        }

        /** The least count that becomes v or more: a count n becomes n(100 + a) by 100, and s. */
        private static int leastTo(int v, int a, int s) {
            return v <= s ? 0 : (100 * (v - s) + 99 + a) / (100 + a);
        }

        private static int mostTo(int v, int a, int s) {
            return v < s ? -1 : (100 * (v - s) + 99) / (100 + a);
        }

        /** Laws keep the order of counts, so that the first counts that fit lie side by side: lowest .. highest. */
        private boolean fits(int a, int s) {
            int low = least[MONTHS - 1];
            int high = most[MONTHS - 1];
            for (int m = MONTHS - 2; m >= 0; m--) {
                low = Math.max(least[m], leastTo(low, a, s));
                high = Math.min(most[m], mostTo(high, a, s));
            }
            lowest = low;
            highest = high;
            return low <= high;
        }

        int lawsThatFit(int what) {
            int found = 0;
            for (int a = 0; a <= RATES; a++) {
                for (int s = 0; s <= ADDED; s++) {
                    if (fits(a, s)) {
                        if (what != 0) {
                            return what == 1 ? a : s;
                        }
                        found++;
                    }
                }
            }
            return what == 0 ? found : NONE;
        }

        private static int grow(int n, int a, int s, int m) {
            int grown = n;
            for (int i = 0; i < m; i++) {
                grown = grown + grown * a / 100 + s;
            }
            return grown;
        }

        int farthest(int m, int what) {
            int best = NONE;
            for (int a = 0; a <= RATES; a++) {
                for (int s = 0; s <= ADDED; s++) {
                    if (fits(a, s)) {
                        int end = grow(what == 0 ? lowest : highest, a, s, m);
                        if (best == NONE || (what == 0 ? end < best : end > best)) {
                            best = end;
                        }
                    }
                }
            }
            return best;
        }
    }

    private static final class Seeker {
        private static final int QUESTIONS = PANELS + YEARS + 2;
        private final int[] yes = new int[QUESTIONS];

        static int numberOf(int q) {
            if (q < PANELS) {
                return q;
            }
            return q - PANELS < YEARS ? 10 + q - PANELS : 30 + q - PANELS - YEARS;
        }

        private static boolean answer(Rail rail, int q, int l) {
            if (q < PANELS) {
                return rail.panelOf[l] <= q;
            }
            if (q < PANELS + YEARS) {
                return rail.year[l] <= q - PANELS;
            }
            return q == PANELS + YEARS ? rail.kind[l] == 0 : rail.holder[l] == NONE;
        }

        void learn(Rail rail) {
            for (int q = 0; q < QUESTIONS; q++) {
                yes[q] = 0;
                for (int l = 0; l < rail.locks && l < LOCKS; l++) {
                    yes[q] |= answer(rail, q, l) ? 1 << l : 0;
                }
            }
        }

        int leftAtWorst(int set, int q) {
            int said = Integer.bitCount(set & yes[q]);
            return Math.max(said, Integer.bitCount(set) - said);
        }

        int bestQuestion(int set) {
            int best = 0;
            for (int q = 1; q < QUESTIONS; q++) {
                if (leftAtWorst(set, q) < leftAtWorst(set, best)) {
                    best = q;
                }
            }
            return best;
        }

        int questionsFor(int set) {
            // looked at first, for no number of questions would end the search
            if (!areApart(set)) {
                return NONE;
            }
            for (int n = 0; n < LOCKS; n++) {
                if (areEnough(this, set, n)) {
                    return n;
                }
            }
            return NONE;
        }

        private boolean areApart(int set) {
            for (int l = 0; l < LOCKS; l++) {
                int like = (set >> l & 1) != 0 ? set : 0;
                for (int q = 0; q < QUESTIONS; q++) {
                    like &= (yes[q] >> l & 1) != 0 ? yes[q] : ~yes[q];
                }
                if (Integer.bitCount(like) > 1) {
                    return false;
                }
            }
            return true;
        }

        private static boolean areEnough(Seeker s, int set, int questions) {
            int size = Integer.bitCount(set);
            if (size <= 1) {
                return true;
            }
            if (questions <= 0 || questions > LOCKS || size > 1 << questions) {
                return false;
            }
            int last = 0;
            for (int q = 0; q < QUESTIONS; q++) {
                int said = set & s.yes[q];
                // a number or a year that no lock has parts the set as the one ahead of it did
                if (said != last && said != 0 && said != set && areEnough(s, said, questions - 1)
                        && areEnough(s, set & ~said, questions - 1)) {
                    return true;
                }
                last = said;
            }
            return false;
        }
    }

    private static final class Looter {
        int loots;
        int inAll;
        int inSome;

        void findLoots(Rail rail, int hanging, int load) {
            loots = 0;
            inAll = -1;
            inSome = 0;
            takeFrom(this, rail, hanging, 0, 0, rail.weightOf(hanging) - load);
        }

        /** A lock comes behind the one on which it hangs: whether that went is known by then. */
        private static void takeFrom(Looter loot, Rail rail, int hanging, int l, int went, int missing) {
            if (missing < 0) {
                return;
            }
            if (l >= rail.locks || l >= LOCKS) {
                if (missing == 0 && went != 0) {
                    loot.keepLoot(went);
                }
                return;
            }
            boolean hangs = (hanging >> l & 1) != 0;
            boolean pulled = hangs && rail.holder[l] >= 0 && (went >> rail.holder[l] & 1) != 0;
            if (!pulled) {
                takeFrom(loot, rail, hanging, l + 1, went, missing);
            }
            if (pulled || hangs && rail.kind[l] == 0) {
                takeFrom(loot, rail, hanging, l + 1, went | 1 << l, missing - rail.weight[l]);
            }
        }

        private void keepLoot(int went) {
            loots++;
            inAll &= went;
            inSome |= went;
        }
    }

    private static final class Tape {
        int length;
        long first;
        long second;
        private final byte[] bytes = new byte[TAPE];

        int add(long w, int n) {
            if (n < 1 || n > 8) {
                return BAD;
            }
            for (int k = 0; k < n; k++) {
                if (!isSign(w >> 8 * k & 255)) {
                    return BAD;
                }
            }
            if (n > TAPE - length) {
                return FULL;
            }
            for (int k = n - 1; k >= 0; k--) {
                bytes[length++] = (byte) (w >> 8 * k & 255);
            }
            return length;
        }

        private static boolean isSign(long b) {
            return b >= 32 && b <= 126;
        }

        int readName() {
            return read(false);
        }

        int readPair() {
            return read(true);
        }

        /** How many letters there are, or a fault; the names stay in first and second. */
        private int read(boolean two) {
            int letters = 0;
            int inName = 0;
            boolean behind = false;
            first = 0;
            second = 0;
            for (int at = 0; at < length && at < TAPE; at++) {
                int b = bytes[at];
                if (isLetter(b, two) && inName < NAME) {
                    second = second << 8 | b;
                    inName++;
                    letters++;
                } else if (two && !behind && inName > 0 && b == '+') {
                    behind = true;
                    first = second;
                    second = 0;
                    inName = 0;
                } else if (b != BLANK) {
                    return FAULT - at;
                }
            }
            if (inName == 0 || two != behind) {
                return FAULT - length;
            }
            if (!two) {
                first = second;
            }
            return letters;
        }

        private static boolean isLetter(int b, boolean worn) {
            return b >= 'A' && b <= 'Z' || worn && b == '?';
        }
    }

    /** Items of all lanes stand in rows of ints, cut to their lane when they are put: so no call makes a row. */
    private static final class Sheets {
        private static final int NOTHING = -1;
        private final int[] lane = new int[SHEETS];
        private final int[] size = new int[SHEETS];
        private final int[][] items = new int[SHEETS][ITEMS];

        Sheets() {
            Arrays.fill(lane, NOTHING);
        }

        boolean holds(int s) {
            return lane[s] != NOTHING;
        }

        int laneOf(int s) {
            return lane[s];
        }

        /** NULL, CAST or INDEX, if n items from i on can't be taken as a row of a lane; else 0. */
        int faultOf(int s, int as, int i, int n) {
            if (!holds(s)) {
                return NULL;
            }
            if (lane[s] != as) {
                return CAST;
            }
            return i < 0 || n < 0 || n > size[s] || i > size[s] - n ? INDEX : 0;
        }

        void renew(int s, int as, int n) {
            lane[s] = as;
            size[s] = n;
            Arrays.fill(items[s], 0);
        }

        int clear(int s) {
            lane[s] = NOTHING;
            return size[s];
        }

        int at(int s, int i) {
            return items[s][i];
        }

        void put(int s, int i, int v) {
            items[s][i] = lane[s] == 0 ? (byte) v : lane[s] == 1 ? (short) v : v;
        }

        void move(int from, int i, int to, int j, int n) {
            System.arraycopy(items[from], i, items[to], j, n);
        }
    }
}
