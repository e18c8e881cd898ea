import java.util.ArrayList;
import java.util.List;
import java.util.function.Supplier;

/** Answers below 0: of several that could be due the one that is; and what answers so changes nothing, but as told. */
public final class RefusedTests {
    private static final int BAD = -1, NOT = -2, FULL = -3, NONE = -4, NULL = -11, CAST = -12, INDEX = -13, SIZE = -14;
    private static final int MIN = Integer.MIN_VALUE, MAX = Integer.MAX_VALUE;
    private static int calls;
    private static int wrong;

    private interface Call {
        long of(LoveLocks x);
    }

    public static void main(String[] args) {
        badAheadOfFull();
        badAheadOfNotAndNone();
        badAheadOfWhatTheMachineFinds();
        thenTheFirstThatACallNames();
        whatTheMachineFindsInItsOrder();
        badChangesNothing();
        notChangesNothing();
        fullChangesNothing();
        whatTheMachineFindsChangesNothing();
        emptiesTheTapeAndNoMore();
        askingChangesNothing();
        System.out.println(wrong == 0 ? calls + " calls are refused as told" : wrong + " calls are not refused as told");
        if (wrong != 0) {
            System.exit(1);
        }
    }

    private static void tape(LoveLocks x, String text) {
        // by eights, for an object is used for 512 calls at most
        for (int k = 0; k < text.length(); k += 8) {
            int n = Math.min(8, text.length() - k);
            long w = 0;
            for (int at = k; at < k + n; at++) {
                w = w << 8 | text.charAt(at);
            }
            x.type(w, n);
        }
    }

    private static void person(LoveLocks x, String text) {
        tape(x, text);
        x.person();
    }

    private static void letters(LoveLocks x, int lock, String text) {
        tape(x, text);
        x.letters(lock);
    }

    /** LOCKS 3 and 4 are GONE; 0 and 1 have LETTERS; SHEET 3 holds nothing; the IMAGE has one PANEL, one LOCK. */
    private static LoveLocks some(String typed) {
        LoveLocks x = new LoveLocks();
        x.panel(400, 700, 900);
        x.hang(0, 0, 30, 0, 5);
        person(x, "ANNA");
        letters(x, 0, "ANNA+B?B");
        x.photo(0, 5, 20);
        x.risk(0, 0, 12);
        x.month(0, 40, 60);
        x.image();
        x.panel(500, 800, 950);
        x.hangOn(0, 20, 1, 6);
        x.hang(1, 2, 10, 1, 5);
        x.hang(1, 1, 40, 0, 7);
        x.hangOn(3, 41, 0, 7);
        x.cut(3);
        x.truck(1, 300, 20, 10, 40);
        x.photo(1, 9, 9);
        person(x, "BOB");
        person(x, "OTTO");
        letters(x, 1, "????+BOB");
        x.nightly(1);
        x.risk(0, 1, 3);
        x.risk(1, 0, 8);
        x.risk(1, 1, 4);
        x.risk(1, 2, 2);
        x.month(1, 50, 70);
        x.month(4, 60, 80);
        x.sheet(0, 0, 4);
        x.sheet(1, 1, 7);
        x.sheet(2, 2, 24);
        for (int s = 0; s < 3; s++) {
            for (int i = 0; i < (s == 0 ? 4 : s == 1 ? 7 : 24); i++) {
                x.item(s, s, i, 10 * s + 2 * i + 1);
            }
        }
        tape(x, typed);
        return x;
    }

    private static LoveLocks some() {
        return some("AB+C");
    }

    /** As many of all as there may be; LOCKS 12, 13 have no LETTERS, and so there are WAYS. */
    private static LoveLocks full(String typed) {
        LoveLocks x = new LoveLocks();
        for (int p = 0; p < 6; p++) {
            x.panel(99999, 99999 - p, 99999);
        }
        for (int l = 0; l < 14; l++) {
            x.hang(l % 6, l % 3, 5 + l, l % 2, l);
        }
        x.cut(13);
        for (int k = 0; k < 12; k++) {
            x.photo(k / 2, 20 - k, 10);
        }
        for (int k = 0; k < 8; k++) {
            x.type('A' + k, 1);
            x.person();
        }
        for (int l = 0; l < 12; l++) {
            x.type(0x412B3FL + (l % 4 << 16), 3);
            x.letters(l);
        }
        tape(x, typed);
        return x;
    }

    private static LoveLocks full() {
        return full("0123456789012345678901234567890123456789");
    }

    /** No LOOTS, no LAWS, no WAYS, no SPAN, no PANELS with it: what answers NONE. */
    private static LoveLocks none() {
        LoveLocks x = new LoveLocks();
        x.panel(9, 9, 9);
        x.hang(0, 0, 1, 0, 0);
        x.hang(0, 0, 1, 0, 0);
        x.hang(0, 0, 1, 0, 0);
        x.cut(2);
        person(x, "A");
        letters(x, 0, "A+B");
        x.photo(0, 1, 0);
        x.photo(0, 2, 0);
        x.month(0, 5, 5);
        x.month(1, 1, 1);
        return x;
    }

    /** All that the calls tell; in the end it is not as it was. */
    private static List<Long> look(LoveLocks x) {
        List<Long> seen = new ArrayList<>();
        lookAtTheState(x, seen, true);
        seen.add((long) x.nightly(2));
        for (int p = 0; p < 6; p++) {
            for (int what = 0; what < 3; what++) {
                seen.add((long) x.risk(p, what, 0));
            }
        }
        seen.add((long) x.type('X', 1));
        seen.add((long) x.letters(0));
        seen.add((long) x.readings(0));
        seen.add((long) x.restore());
        lookAtTheState(x, seen, false);
        for (int m = 0; m < 12; m++) {
            x.month(m, 0, 9999);
        }
        for (int s = 0; s < 4; s++) {
            for (int i = 0; i < 24; i += 2) {
                int lane = s < 3 ? s : 0;
                int taken = x.months(s, lane, i, 1);
                seen.add((long) taken);
                if (taken != 1) {
                    break;
                }
                seen.add(x.grown(0, 0));
                seen.add(x.grown(0, 1));
            }
            seen.add((long) x.drop(s));
        }
        return seen;
    }

    private static void lookAtTheState(LoveLocks x, List<Long> seen, boolean all) {
        for (int what = 0; what < 6; what++) {
            seen.add((long) x.count(what));
        }
        int locks = all ? x.count(1) : 1;
        for (int l = 0; l < locks; l++) {
            for (int what = 0; what < 8; what++) {
                seen.add((long) x.told(l, what));
            }
            seen.add((long) x.readings(l));
            seen.add((long) x.who(l, 0));
            seen.add((long) x.who(l, 1));
        }
        int panels = all ? x.count(0) : 1;
        for (int p = 0; p < panels; p++) {
            for (int what = 0; what < 5; what++) {
                seen.add((long) x.load(p, what));
            }
            seen.add((long) x.span(p, 0));
            seen.add((long) x.span(p, 1));
            seen.add((long) x.safe(p, 20));
            seen.add((long) x.order(p));
            seen.add((long) x.on(p, p % 3));
        }
        int people = x.count(4);
        for (int p = 0; p < people; p++) {
            seen.add((long) x.where(p, 0));
        }
        seen.add((long) x.order(-1));
        seen.add((long) x.over());
        seen.add(x.ways());
        for (int what = 0; what < 3; what++) {
            seen.add((long) x.laws(what));
            seen.add((long) x.stolen(0, 0, 20, what));
        }
        for (int m = 0; m < 12; m++) {
            seen.add(x.grown(m, 0));
            seen.add(x.grown(m, 1));
        }
        seen.add((long) x.ask(7, 0));
        seen.add((long) x.needed(7));
    }

    private static void due(String name, long want, long got) {
        calls++;
        if (want != got) {
            wrong++;
            System.out.println(name + " answered " + got + ", due is " + want);
        }
    }

    /** The call answers so, and leaves all as it is where the call was not. */
    private static void refused(String name, long want, Supplier<LoveLocks> made, Call call) {
        leaves(name, want, made.get(), call, made.get());
    }

    private static void leaves(String name, long want, LoveLocks x, Call call, LoveLocks asIs) {
        due(name, want, call.of(x));
        List<Long> seen = look(x);
        List<Long> due = look(asIs);
        if (!seen.equals(due)) {
            wrong++;
            System.out.println(name + " changed something: " + seen + ", due is " + due);
        }
    }

    // ---- of several, which

    private static void badAheadOfFull() {
        due("panel: BAD, FULL", BAD, full().panel(0, 1, 1));
        due("panel: BAD, FULL", BAD, full().panel(1, 100000, 1));
        due("panel: BAD, FULL", BAD, full().panel(1, 1, 0));
        due("hang: BAD, FULL", BAD, full().hang(6, 0, 1, 0, 0));
        due("hang: BAD, FULL", BAD, full().hang(0, 3, 1, 0, 0));
        due("hang: BAD, FULL", BAD, full().hang(0, 0, 0, 0, 0));
        due("hang: BAD, FULL", BAD, full().hang(0, 0, 1, 2, 0));
        due("hang: BAD, FULL", BAD, full().hang(0, 0, 1, 0, 20));
        due("hangOn: BAD, FULL", BAD, full().hangOn(14, 1, 0, 0));
        due("hangOn: BAD, FULL", BAD, full().hangOn(0, 1000, 0, 0));
        due("hangOn: BAD, FULL", BAD, full().hangOn(0, 1, -1, 0));
        due("hangOn: BAD, FULL", BAD, full().hangOn(0, 1, 0, -1));
        due("photo: BAD, FULL", BAD, full().photo(6, 0, 0));
        due("photo: BAD, FULL", BAD, full().photo(0, 1000, 0));
        due("photo: BAD, FULL", BAD, full().photo(0, 0, -1));
        due("truck: BAD, FULL", BAD, full().truck(-1, 1, 1, 1, 1));
        due("truck: BAD, FULL", BAD, full().truck(0, 100000, 1, 1, 1));
        due("truck: BAD, FULL", BAD, full().truck(0, 1, 10000, 1, 1));
        due("truck: BAD, FULL", BAD, full().truck(0, 1, 1, 0, 1));
        due("truck: BAD, FULL", BAD, full().truck(0, 1, 1, 1, 1000));
        due("truck: BAD, FULL", BAD, full().truck(0, 1, 1, 2, 1));
        due("type: BAD, FULL", BAD, full().type(31, 1));
        due("type: BAD, FULL", BAD, full().type(0x4100414141414141L, 7));
        due("type: BAD, FULL", BAD, full().type(65, 0));
        due("type: BAD, FULL", BAD, full().type(0x4141414141414141L, 9));
        due("type: BAD, FULL", BAD, full().type(0x4141414141414141L, MAX));
        due("letters: BAD, FULL", BAD, full("A+B").letters(14));
    }

    private static void badAheadOfNotAndNone() {
        due("hangOn: BAD, NOT", BAD, some().hangOn(3, 0, 0, 0));
        due("hangOn: BAD, NOT", BAD, some().hangOn(3, 1, 2, 0));
        due("hangOn: BAD, NOT", BAD, some().hangOn(4, 1, 0, 20));
        due("letters: BAD, a FAULT", BAD, some("1").letters(5));
        due("letters: BAD, a FAULT", BAD, some("").letters(-1));
        due("span: BAD, NONE", BAD, none().span(0, 2));
        due("span: BAD, NONE", BAD, none().span(0, -1));
        due("safe: BAD, NONE", BAD, none().safe(0, 0));
        due("safe: BAD, NONE", BAD, none().safe(0, 1000));
        due("who: BAD, NOT", BAD, none().who(1, 2));
        due("who: BAD, NONE", BAD, none().who(0, -1));
        due("where: BAD, NONE", BAD, none().where(1, 0));
        due("where: BAD, NONE", BAD, none().where(0, 2));
        due("order: BAD, NOT", BAD, new LoveLocks().order(0));
        due("order: BAD, NOT", BAD, new LoveLocks().order(-2));
        due("laws: BAD, NONE", BAD, none().laws(3));
        due("grown: BAD, NONE", BAD, none().grown(12, 0));
        due("grown: BAD, NONE", BAD, none().grown(0, 2));
        due("needed: BAD, NONE", BAD, none().needed(7));
        due("needed: BAD, NONE", BAD, none().needed(8 + 3));
        due("stolen: BAD, NONE", BAD, none().stolen(0, 0, 2, 3));
        due("stolen: BAD, NONE", BAD, none().stolen(0, 0, 100000, 1));
        due("stolen: BAD, NONE", BAD, none().stolen(0, 0, -1, 2));
        due("stolen: BAD, NONE", BAD, none().stolen(0, 3, 2, 1));
        due("stolen: BAD, NONE", BAD, none().stolen(1, 0, 2, 1));
    }

    private static void badAheadOfWhatTheMachineFinds() {
        due("sheet: BAD, SIZE", BAD, some().sheet(4, 0, -1));
        due("sheet: BAD, SIZE", BAD, some().sheet(0, 3, -1));
        due("sheet: BAD, SIZE", BAD, some().sheet(0, -1, MIN));
        due("item: BAD, NULL", BAD, some().item(3, 3, 0, 0));
        due("item: BAD, CAST", BAD, some().item(0, 3, 0, 0));
        due("item: BAD, INDEX", BAD, some().item(0, -1, 4, 0));
        due("months: BAD, NULL", BAD, some().months(3, 0, 0, 0));
        due("months: BAD, NULL", BAD, some().months(3, 3, 0, 1));
        due("months: BAD, CAST", BAD, some().months(2, 1, 0, 13));
        due("months: BAD, CAST", BAD, some().months(2, 3, 0, 1));
        due("months: BAD, INDEX", BAD, some().months(2, 2, -1, 0));
        due("months: BAD, INDEX", BAD, some().months(2, 2, 25, -1));
        due("months: BAD, INDEX", BAD, some().months(2, 2, 0, 13));
        due("months: BAD, INDEX", BAD, some().months(2, 2, 0, MAX));
        due("months: BAD, INDEX", BAD, some().months(2, 2, 0, 1 << 31 | 1));
        due("copy: BAD, NULL", BAD, some().copy(3, 0, 4, 0, 1));
        due("copy: BAD, NULL", BAD, some().copy(4, 0, 3, 0, 1));
        due("copy: BAD, INDEX", BAD, some().copy(-1, -1, 0, 0, 1));
        due("copy: BAD, INDEX", BAD, some().copy(0, 0, -1, 0, -1));
    }

    private static void thenTheFirstThatACallNames() {
        due("hangOn: NOT, FULL", NOT, full().hangOn(13, 1, 0, 0));
        due("hangOn: FULL", FULL, full().hangOn(12, 1, 0, 0));
        due("person: a FAULT, FULL", -21, full("A1").person());
        due("person: a FAULT, FULL", -20, full("").person());
        due("letters: a FAULT, FULL", -21, full("A").letters(12));
        due("letters: a FAULT, FULL", -24, full("A+B 1").letters(13));
        due("who: NOT, NONE", NOT, none().who(1, 0));
        due("who: NONE", NONE, none().who(0, 0));
        due("months: INDEX, NOT", INDEX, backward().months(0, 1, 1, 2));
        due("months: INDEX, NOT", INDEX, backward().months(0, 1, 0, 12));
        due("months: NOT", NOT, backward().months(0, 1, 0, 2));
        due("months: CAST, NOT", CAST, backward().months(0, 2, 0, 2));
    }

    private static LoveLocks backward() {
        LoveLocks x = new LoveLocks();
        x.sheet(0, 1, 4);
        for (int i = 0; i < 4; i++) {
            x.item(0, 1, i, 9 - i);
        }
        return x;
    }

    private static void whatTheMachineFindsInItsOrder() {
        due("item: NULL, INDEX", NULL, some().item(3, 0, -1, 0));
        due("item: CAST, INDEX", CAST, some().item(0, 1, -1, 0));
        due("item: CAST, INDEX", CAST, some().item(0, 2, 4, 0));
        due("item: INDEX", INDEX, some().item(0, 0, 4, 0));
        due("months: NULL, INDEX", NULL, some().months(3, 0, -1, 12));
        due("months: CAST, INDEX", CAST, some().months(0, 1, -1, 1));
        due("months: CAST, INDEX", CAST, some().months(0, 2, 0, 12));
        due("months: INDEX", INDEX, some().months(0, 0, 0, 3));
        due("copy: NULL, INDEX", NULL, some().copy(3, -1, 0, 0, -1));
        due("copy: NULL, INDEX", NULL, some().copy(0, 5, 3, 9, 99));
        due("copy: CAST, INDEX", CAST, some().copy(0, -1, 1, 0, 1));
        due("copy: CAST, INDEX", CAST, some().copy(0, 0, 1, 9, 1));
        due("copy: CAST, INDEX", CAST, some().copy(0, 0, 1, 0, -1));
        due("copy: CAST, no item taken", CAST, some().copy(0, 0, 1, 0, 0));
        due("copy: INDEX", INDEX, some().copy(0, 0, 0, 0, -1));
    }

    // ---- what is left as it was

    private static void badChangesNothing() {
        bad("panel(0, 1, 1)", x -> x.panel(0, 1, 1));
        bad("panel(1, 100000, 1)", x -> x.panel(1, 100000, 1));
        bad("panel(1, 1, 0)", x -> x.panel(1, 1, 0));
        bad("hang(2, ..)", x -> x.hang(2, 0, 1, 0, 0));
        bad("hang(.., 1000, ..)", x -> x.hang(0, 0, 1000, 0, 0));
        bad("hang(.., 20)", x -> x.hang(0, 0, 1, 0, 20));
        bad("hangOn(5, ..)", x -> x.hangOn(5, 1, 0, 0));
        bad("hangOn(.., 2, 0)", x -> x.hangOn(0, 1, 2, 0));
        bad("cut(5)", x -> x.cut(5));
        bad("cut(-1)", x -> x.cut(-1));
        bad("photo(2, ..)", x -> x.photo(2, 1, 1));
        bad("photo(.., 1000)", x -> x.photo(0, 0, 1000));
        bad("truck(.., 3, 2)", x -> x.truck(0, 9, 9, 3, 2));
        bad("type(.., 9)", x -> x.type(0x4141414141414141L, 9));
        bad("type(0x411F, 2)", x -> x.type(0x411F, 2));
        bad("type(0x1F41, 2)", x -> x.type(0x1F41, 2));
        bad("type(0x7F, 1)", x -> x.type(0x7F, 1));
        bad("letters(5)", x -> x.letters(5));
        bad("letters(-1)", x -> x.letters(-1));
        bad("nightly(0)", x -> x.nightly(0));
        bad("nightly(4)", x -> x.nightly(4));
        bad("risk(0, 0, 100)", x -> x.risk(0, 0, 100));
        bad("risk(0, 1, 10)", x -> x.risk(0, 1, 10));
        bad("risk(0, 2, 6)", x -> x.risk(0, 2, 6));
        bad("risk(0, 2, -1)", x -> x.risk(0, 2, -1));
        bad("risk(0, 3, 1)", x -> x.risk(0, 3, 1));
        bad("risk(2, 0, 1)", x -> x.risk(2, 0, 1));
        bad("order(2)", x -> x.order(2));
        bad("month(12, ..)", x -> x.month(12, 1, 1));
        bad("month(0, 50, 49)", x -> x.month(0, 50, 49));
        bad("month(0, 50, 10000)", x -> x.month(0, 50, 10000));
        bad("month(0, -1, 50)", x -> x.month(0, -1, 50));
        bad("months(4, ..)", x -> x.months(4, 0, 0, 1));
        bad("months(.., 0)", x -> x.months(2, 2, 0, 0));
        bad("months(.., 13)", x -> x.months(2, 2, 0, 13));
        bad("sheet(0, 0, 25)", x -> x.sheet(0, 0, 25));
        bad("sheet(0, 3, 2)", x -> x.sheet(0, 3, 2));
        bad("sheet(4, 0, 2)", x -> x.sheet(4, 0, 2));
        bad("drop(4)", x -> x.drop(4));
        bad("drop(-1)", x -> x.drop(-1));
        bad("item(.., 3, ..)", x -> x.item(0, 3, 0, 9));
        bad("item(4, ..)", x -> x.item(4, 0, 0, 9));
        bad("copy(4, ..)", x -> x.copy(4, 0, 0, 0, 1));
        bad("copy(.., 4, ..)", x -> x.copy(0, 0, 4, 0, 1));
    }

    private static void bad(String name, Call call) {
        refused(name, BAD, RefusedTests::some, call);
    }

    private static void notChangesNothing() {
        refused("hangOn(GONE)", NOT, RefusedTests::some, x -> x.hangOn(3, 1, 0, 0));
        refused("cut(GONE)", NOT, RefusedTests::some, x -> x.cut(3));
        refused("cut(GONE with another)", NOT, RefusedTests::some, x -> x.cut(4));
        refused("readings", NOT, RefusedTests::some, x -> x.readings(2));
        refused("who", NOT, RefusedTests::some, x -> x.who(2, 0));
        refused("order", NOT, LoveLocks::new, x -> x.order(-1));
        refused("restore", NONE, RefusedTests::full, x -> x.restore());
        refused("over", NONE, RefusedTests::some, x -> x.over());
        refused("span", NONE, RefusedTests::none, x -> x.span(0, 0));
        refused("safe", NONE, RefusedTests::none, x -> x.safe(0, 1));
        refused("who", NONE, RefusedTests::none, x -> x.who(0, 0));
        refused("where", NONE, RefusedTests::none, x -> x.where(0, 0));
        refused("laws", NONE, RefusedTests::none, x -> x.laws(1));
        refused("grown", NONE, RefusedTests::none, x -> x.grown(5, 0));
        refused("needed", NONE, RefusedTests::none, x -> x.needed(3));
        refused("stolen", NONE, RefusedTests::none, x -> x.stolen(0, 0, 2, 1));
    }

    private static void fullChangesNothing() {
        refused("panel", FULL, RefusedTests::full, x -> x.panel(1, 1, 1));
        refused("hang", FULL, RefusedTests::full, x -> x.hang(0, 0, 1, 0, 0));
        refused("hangOn", FULL, RefusedTests::full, x -> x.hangOn(0, 1, 0, 0));
        refused("photo", FULL, RefusedTests::full, x -> x.photo(0, 20, 0));
        refused("truck", FULL, RefusedTests::full, x -> x.truck(0, 20, 0, 1, 1));
        refused("type", FULL, RefusedTests::full, x -> x.type('A', 1));
        refused("type", FULL, () -> full("A+B                                  "), x -> x.type(0x41414141L, 4));
    }

    private static void whatTheMachineFindsChangesNothing() {
        refused("sheet", SIZE, RefusedTests::some, x -> x.sheet(0, 2, -1));
        refused("sheet", SIZE, RefusedTests::some, x -> x.sheet(3, 2, MIN));
        refused("drop", NULL, RefusedTests::some, x -> x.drop(3));
        refused("item", NULL, RefusedTests::some, x -> x.item(3, 0, 0, 1));
        refused("item", CAST, RefusedTests::some, x -> x.item(0, 1, 0, 9));
        refused("item", INDEX, RefusedTests::some, x -> x.item(0, 0, 4, 9));
        refused("item", INDEX, RefusedTests::some, x -> x.item(0, 0, -1, 9));
        refused("months", NULL, RefusedTests::some, x -> x.months(3, 0, 0, 1));
        refused("months", CAST, RefusedTests::some, x -> x.months(0, 1, 0, 1));
        refused("months", INDEX, RefusedTests::some, x -> x.months(1, 1, 2, 3));
        refused("months", INDEX, RefusedTests::some, x -> x.months(1, 1, -1, 1));
        refused("months, the last one", NOT, () -> turned(5), x -> x.months(1, 1, 0, 3));
        refused("months, the first one", NOT, () -> turned(1), x -> x.months(1, 1, 0, 3));
        refused("copy", NULL, RefusedTests::some, x -> x.copy(0, 0, 3, 0, 1));
        refused("copy", NULL, RefusedTests::some, x -> x.copy(3, 0, 0, 0, 1));
        refused("copy", CAST, RefusedTests::some, x -> x.copy(0, 0, 1, 0, 1));
        refused("copy, too many from", INDEX, RefusedTests::some, x -> x.copy(1, 5, 1, 0, 3));
        refused("copy, too many to", INDEX, RefusedTests::some, x -> x.copy(1, 0, 1, 5, 3));
        refused("copy, n below 0", INDEX, RefusedTests::some, x -> x.copy(1, 2, 1, 3, -1));
    }

    /** Item i of SHEET 1 is less than the least that stands ahead of it. */
    private static LoveLocks turned(int i) {
        LoveLocks x = some();
        x.item(1, 1, i, 0);
        return x;
    }

    /** "THE TAPE, which is empty then (by a FAULT, by FULL, too)" is what is told to change. */
    private static void emptiesTheTapeAndNoMore() {
        leaves("person", -22, some("AB1"), x -> x.person(), some(""));
        leaves("person", -26, some("ABCDEFG"), x -> x.person(), some(""));
        leaves("person", -22, some("  "), x -> x.person(), some(""));
        leaves("person", FULL, full("AB"), x -> x.person(), full(""));
        leaves("letters", -21, some("A"), x -> x.letters(0), some(""));
        leaves("letters", -23, some("A+B+"), x -> x.letters(1), some(""));
        leaves("letters", -20, some("+A"), x -> x.letters(2), some(""));
        leaves("letters", FULL, full("A+B"), x -> x.letters(12), full(""));
        leaves("letters, not 12 others", 2, full("A+?"), x -> x.letters(0), full(""));
    }

    private static void askingChangesNothing() {
        refused("told", 20, RefusedTests::some, x -> x.told(1, 0));
        refused("load", 50, RefusedTests::some, x -> x.load(0, 3));
        refused("on", 3, RefusedTests::some, x -> x.on(0, 0));
        refused("giveWay", 0, RefusedTests::some, x -> x.giveWay());
        refused("count", 5, RefusedTests::some, x -> x.count(1));
        refused("span", 5, RefusedTests::some, x -> x.span(0, 0));
        refused("safe", 1, RefusedTests::some, x -> x.safe(0, 28));
        refused("readings", 2, RefusedTests::some, x -> x.readings(1));
        refused("ways", 2, RefusedTests::some, x -> x.ways());
        refused("who", 7, RefusedTests::some, x -> x.who(1, 0));
        refused("where", 3, RefusedTests::some, x -> x.where(0, 0));
        refused("order", 0, RefusedTests::some, x -> x.order(0));
        refused("laws", 0, RefusedTests::some, x -> x.laws(1));
        refused("ask", 0, RefusedTests::some, x -> x.ask(5, 0));
        refused("needed", 2, RefusedTests::some, x -> x.needed(7));
        refused("stolen", 1, RefusedTests::some, x -> x.stolen(0, 0, 0, 0));
        refused("image and restore", 1, () -> imaged(some()), x -> x.restore());
    }

    private static LoveLocks imaged(LoveLocks x) {
        x.image();
        return x;
    }
}
