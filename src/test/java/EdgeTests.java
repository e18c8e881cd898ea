/** Each sentence of the document that names a boundary case has a test of its own, called by the sentence's words. */
public final class EdgeTests {
    private static final int BAD = -1, NOT = -2, FULL = -3, NONE = -4, NULL = -11, CAST = -12, INDEX = -13, SIZE = -14;
    private static final int MIN = Integer.MIN_VALUE, MAX = Integer.MAX_VALUE;
    private static String sentence = "";
    private static int sentences;
    private static int row;
    private static int wrong;

    private static void holds(String words, Runnable test) {
        sentence = words;
        sentences++;
        row = 0;
        test.run();
        if (row == 0) {
            wrong++;
            System.out.println("\"" + words + "\" is not looked at");
        }
    }

    private static void due(long want, long got) {
        row++;
        if (want != got) {
            wrong++;
            System.out.println("\"" + sentence + "\", check " + row + ": answered " + got + ", due is " + want);
        }
    }

    public static void main(String[] args) {
        terms();
        rail();
        falls();
        sights();
        tapeAndNames();
        lettersOfLocks();
        ways();
        cuts();
        growth();
        sought();
        stolen();
        images();
        sheets();
        System.out.println(wrong == 0 ? sentences + " sentences hold" : wrong + " answers are wrong");
        if (wrong != 0) {
            System.exit(1);
        }
    }

    private static LoveLocks panels(int n) {
        LoveLocks x = new LoveLocks();
        for (int k = 0; k < n; k++) {
            x.panel(99999, 99999, 99999);
        }
        return x;
    }

    /** On bar 0 of panel 0, of WEIGHT 1, BRASS, of the YEARS 0, 1 and so on. */
    private static LoveLocks locks(int n) {
        LoveLocks x = panels(1);
        for (int k = 0; k < n; k++) {
            x.hang(0, 0, 1, 0, k);
        }
        return x;
    }

    private static int tape(LoveLocks x, String text) {
        int n = 0;
        for (int k = 0; k < text.length(); k++) {
            n = x.type(text.charAt(k), 1);
        }
        return n;
    }

    private static int person(LoveLocks x, String text) {
        tape(x, text);
        return x.person();
    }

    private static int letters(LoveLocks x, int lock, String text) {
        tape(x, text);
        return x.letters(lock);
    }

    /** A row of ints with these items. */
    private static void fill(LoveLocks x, int sheet, int lane, int... items) {
        x.sheet(sheet, lane, items.length);
        for (int i = 0; i < items.length; i++) {
            x.item(sheet, lane, i, items[i]);
        }
    }

    /** Items are seen but by months: item i and the one behind it, as the least and the most of MONTH 0. */
    private static void dueItems(LoveLocks x, int sheet, int lane, int i, int least, int most) {
        due(1, x.months(sheet, lane, i, 1));
        due(least, x.grown(0, 0));
        due(most, x.grown(0, 1));
    }

    // ---- terms

    private static void terms() {
        holds("An object is used for at most 512 calls", () -> {
            LoveLocks x = locks(3);
            for (int k = 0; k < 126; k++) {
                x.image();
                x.hangOn(2, 999, 0, 0);
                x.giveWay();
                x.restore();
            }
            due(3, x.count(1));
            due(0, x.count(2));
            due(7, x.on(0, 0));
            due(3, x.hang(0, 0, 1, 0, 0));
        });
        holds("Sets (of LOCKS) are bits", () -> {
            LoveLocks x = locks(14);
            for (int l = 0; l < 13; l++) {
                x.cut(l);
            }
            due(1 << 13, x.on(0, 0));
            due(1 << 13, x.stolen(0, 0, 0, 1));
            due(1 << 13, x.stolen(0, 0, 0, 2));
            due(0, x.needed(1 << 13));
            due(BAD, x.needed(13));
        });
        holds("Sets (of PEOPLE) are bits", () -> {
            LoveLocks x = locks(14);
            for (int p = 0; p < 8; p++) {
                person(x, "" + (char) ('A' + p));
            }
            letters(x, 13, "G+H");
            due(1 << 6 | 1 << 7, x.who(13, 0));
            due(1 << 6 | 1 << 7, x.who(13, 1));
            due(1 << 13, x.where(7, 0));
            due(1 << 13, x.where(7, 1));
            due(0, x.where(5, 0));
        });
        holds("the same calls answer the same on two objects, each by itself", () -> {
            LoveLocks x = locks(2);
            LoveLocks y = locks(2);
            x.cut(0);
            x.image();
            x.type('A', 1);
            x.month(0, 5, 5);
            x.sheet(0, 0, 3);
            due(0, y.count(2));
            due(NONE, y.restore());
            due(-20, y.person());
            due(9999, y.grown(0, 1));
            due(NULL, y.drop(0));
        });
    }

    // ---- 1 the rail

    private static void rail() {
        holds("No PANELS.", () -> {
            LoveLocks x = new LoveLocks();
            due(0, x.count(0));
            due(BAD, x.load(0, 0));
            due(BAD, x.hang(0, 0, 1, 0, 0));
            due(0, x.panel(1, 1, 1));
        });
        holds("PANELS 0 .. 5, as they come; FULL: 6", () -> {
            LoveLocks x = new LoveLocks();
            for (int p = 0; p < 6; p++) {
                due(p, x.panel(p + 1, 100 + p, 200 + p));
            }
            due(FULL, x.panel(1, 1, 1));
            due(FULL, x.panel(99999, 99999, 99999));
            due(6, x.count(0));
            due(0, x.load(5, 3));
            due(BAD, x.load(6, 3));
            due(0, x.hang(5, 2, 7, 0, 0));
            due(152, x.over());
        });
        holds("LIMITS (1 .. 99999) of each BAR, of all of it, of its SAG", () -> {
            int[] off = {0, -1, 100000, MIN, MAX};
            for (int v : off) {
                LoveLocks x = new LoveLocks();
                due(BAD, x.panel(v, 1, 1));
                due(BAD, x.panel(1, v, 1));
                due(BAD, x.panel(1, 1, v));
                due(0, x.count(0));
            }
            LoveLocks x = new LoveLocks();
            due(0, x.panel(1, 99999, 99999));
            due(1, x.panel(99999, 1, 99999));
            due(2, x.panel(99999, 99999, 1));
        });
        holds("BARS 0 .. 2", () -> {
            LoveLocks x = panels(1);
            for (int b = 0; b < 3; b++) {
                due(b, x.hang(0, b, 1, 0, 0));
                due(1 << b, x.on(0, b));
                due(1, x.load(0, b));
                due(0, x.stolen(0, b, 1, 0));
            }
            int[] off = {-1, 3, MIN, MAX};
            for (int b : off) {
                due(BAD, x.hang(0, b, 1, 0, 0));
                due(BAD, x.on(0, b));
                due(BAD, x.stolen(0, b, 1, 0));
            }
            due(3, x.count(1));
        });
        holds("there is no such PANEL", () -> {
            for (int n = 0; n <= 6; n += 3) {
                LoveLocks x = panels(n);
                int[] off = {-1, n, 6, MIN, MAX};
                for (int p : off) {
                    due(BAD, x.hang(p, 0, 1, 0, 0));
                    due(BAD, x.load(p, 0));
                    due(BAD, x.on(p, 0));
                    due(BAD, x.photo(p, 1, 1));
                    due(BAD, x.truck(p, 1, 1, 1, 1));
                    due(BAD, x.span(p, 0));
                    due(BAD, x.safe(p, 1));
                    due(BAD, x.risk(p, 0, 1));
                    due(BAD, x.stolen(p, 0, 0, 0));
                    due(p == -1 ? n == 0 ? NOT : 0 : BAD, x.order(p));
                }
            }
        });
        holds("LOCKS 0 .. 13, as they come; FULL: 14", () -> {
            LoveLocks x = panels(1);
            for (int l = 0; l < 14; l++) {
                due(l, l % 2 == 0 ? x.hang(0, 0, 1, 0, 0) : x.hangOn(l - 1, 1, 0, 0));
            }
            due(FULL, x.hang(0, 0, 1, 0, 0));
            due(14, x.count(1));
            due(14, x.load(0, 0));
            due(0, x.told(13, 7));
            due(BAD, x.told(14, 7));
        });
        holds("hangOn .. FULL", () -> {
            LoveLocks x = locks(14);
            due(FULL, x.hangOn(0, 1, 0, 0));
            due(FULL, x.hangOn(13, 999, 1, 19));
            due(14, x.count(1));
            due(0, x.told(0, 6));
        });
        holds("FULL: 14 counts the GONE ones (it keeps its number)", () -> {
            LoveLocks x = locks(13);
            due(1, x.cut(12));
            due(13, x.hang(0, 0, 1, 0, 0));
            due(1, x.cut(0));
            due(FULL, x.hang(0, 0, 1, 0, 0));
            due(FULL, x.hangOn(13, 1, 0, 0));
            due(14, x.count(1));
            due(2, x.count(2));
        });
        holds("a WEIGHT (1 .. 999)", () -> {
            LoveLocks x = panels(1);
            int[] off = {0, -1, 1000, MIN, MAX};
            due(0, x.hang(0, 0, 1, 0, 0));
            due(1, x.hang(0, 0, 999, 0, 0));
            due(2, x.hangOn(1, 1, 0, 0));
            due(3, x.hangOn(1, 999, 0, 0));
            for (int w : off) {
                due(BAD, x.hang(0, 0, w, 0, 0));
                due(BAD, x.hangOn(0, w, 0, 0));
            }
            due(2000, x.load(0, 0));
        });
        holds("a KIND (0 BRASS, 1 STEEL)", () -> {
            LoveLocks x = panels(1);
            due(0, x.hang(0, 0, 1, 0, 0));
            due(1, x.hang(0, 0, 1, 1, 0));
            due(2, x.hangOn(0, 1, 1, 0));
            due(3, x.hangOn(0, 1, 0, 0));
            int[] want = {0, 1, 1, 0};
            for (int l = 0; l < 4; l++) {
                due(want[l], x.told(l, 1));
            }
            int[] off = {-1, 2, MIN, MAX};
            for (int k : off) {
                due(BAD, x.hang(0, 0, 1, k, 0));
                due(BAD, x.hangOn(0, 1, k, 0));
            }
        });
        holds("a YEAR (0 .. 19)", () -> {
            LoveLocks x = panels(1);
            due(0, x.hang(0, 0, 1, 0, 0));
            due(1, x.hang(0, 0, 1, 0, 19));
            due(2, x.hangOn(0, 1, 0, 0));
            due(3, x.hangOn(0, 1, 0, 19));
            for (int l = 0; l < 4; l++) {
                due(l % 2 * 19, x.told(l, 2));
            }
            int[] off = {-1, 20, MIN, MAX};
            for (int y : off) {
                due(BAD, x.hang(0, 0, 1, 0, y));
                due(BAD, x.hangOn(0, 1, 0, y));
            }
        });
        holds("hangOn .. BAD: no such LOCK", () -> {
            LoveLocks x = panels(1);
            due(BAD, x.hangOn(0, 1, 0, 0));
            x.hang(0, 0, 1, 0, 0);
            int[] off = {-1, 1, 14, MIN, MAX};
            for (int l : off) {
                due(BAD, x.hangOn(l, 1, 0, 0));
                due(BAD, x.told(l, 0));
                due(BAD, x.cut(l));
                due(BAD, x.letters(l));
                due(BAD, x.readings(l));
                due(BAD, x.who(l, 0));
            }
            due(1, x.count(1));
        });
        holds("hangOn .. NOT: that is GONE", () -> {
            LoveLocks x = locks(2);
            x.hangOn(1, 1, 0, 0);
            x.cut(0);
            due(NOT, x.hangOn(0, 1, 0, 0));
            due(3, x.hangOn(2, 1, 0, 0));
            x.cut(1);
            due(NOT, x.hangOn(1, 1, 0, 0));
            due(NOT, x.hangOn(2, 1, 0, 0));
            due(NOT, x.hangOn(3, 1, 0, 0));
            due(4, x.count(1));
        });
        holds("One that is GONE hangs nowhere more", () -> {
            LoveLocks x = panels(1);
            x.hang(0, 1, 10, 0, 0);
            x.hangOn(0, 20, 0, 0);
            x.hangOn(1, 7, 0, 0);
            x.hangOn(0, 5, 0, 0);
            x.cut(1);
            due(5, x.told(0, 6));
            due(15, x.load(0, 1));
            due(15, x.load(0, 3));
            due(30, x.load(0, 4));
            due(9, x.on(0, 1));
        });
        holds("3 .. 6 are as they were, 6 is 0 then", () -> {
            LoveLocks x = panels(3);
            x.hang(1, 1, 10, 0, 0);
            x.hang(2, 1, 10, 1, 17);
            x.hangOn(1, 3, 0, 18);
            x.hangOn(2, 4, 0, 0);
            due(7, x.told(1, 6));
            x.cut(1);
            int[] first = {10, 1, 17, 2, 1, NONE, 0, 1};
            int[] second = {3, 0, 18, 2, 1, 1, 0, 1};
            for (int what = 0; what < 8; what++) {
                due(first[what], x.told(1, what));
                due(second[what], x.told(2, what));
            }
            due(0, x.told(0, 7));
        });
        holds("5 the LOCK on which it hangs (NONE: a BAR)", () -> {
            LoveLocks x = locks(2);
            x.hangOn(0, 1, 0, 0);
            x.hangOn(2, 1, 0, 0);
            due(NONE, x.told(0, 5));
            due(NONE, x.told(1, 5));
            due(0, x.told(2, 5));
            due(2, x.told(3, 5));
        });
        holds("told: 0 .. 7, else BAD", () -> {
            LoveLocks x = locks(1);
            int[] off = {-1, 8, MIN, MAX};
            for (int what : off) {
                due(BAD, x.told(0, what));
            }
            due(0, x.told(0, 7));
        });
        holds("load: BAR (0 .. 2), the PANEL (3), its SAG (4), else BAD", () -> {
            LoveLocks x = panels(2);
            x.hang(1, 0, 1, 0, 0);
            x.hang(1, 1, 10, 0, 0);
            x.hang(1, 2, 100, 0, 0);
            int[] want = {1, 10, 100, 111, 121};
            for (int what = 0; what < 5; what++) {
                due(want[what], x.load(1, what));
                due(0, x.load(0, what));
            }
            int[] off = {-1, 5, MIN, MAX};
            for (int what : off) {
                due(BAD, x.load(1, what));
            }
        });
        holds("cut .. how many are GONE by that; NOT: it is GONE", () -> {
            LoveLocks x = panels(1);
            x.hang(0, 0, 9, 0, 0);
            x.hangOn(0, 9, 0, 0);
            x.hangOn(1, 9, 0, 0);
            x.hangOn(1, 9, 0, 0);
            x.hangOn(0, 9, 0, 0);
            due(1, x.cut(3));
            due(NOT, x.cut(3));
            due(3 - 1, x.cut(1));
            due(NOT, x.cut(2));
            due(2, x.cut(0));
            due(NOT, x.cut(0));
            due(NOT, x.cut(4));
            due(5, x.count(2));
        });
        holds("count: 0 .. 5, else BAD", () -> {
            LoveLocks x = locks(3);
            x.cut(2);
            x.cut(1);
            for (int k = 0; k < 4; k++) {
                x.photo(0, 1, 1);
                person(x, "A");
            }
            person(x, "A");
            letters(x, 2, "A+B");
            int[] want = {1, 3, 2, 4, 5, 1};
            for (int what = 0; what < 6; what++) {
                due(want[what], x.count(what));
            }
            int[] off = {-1, 6, MIN, MAX};
            for (int what : off) {
                due(BAD, x.count(what));
            }
        });
    }

    private static void falls() {
        holds("What a LOCK BEARS is the WEIGHT of all that hangs on it .. (without its own)", () -> {
            LoveLocks x = panels(1);
            x.hang(0, 0, 100, 0, 0);
            due(0, x.told(0, 6));
            x.hangOn(0, 30, 0, 0);
            x.hangOn(1, 7, 0, 0);
            x.hang(0, 0, 500, 0, 0);
            due(37, x.told(0, 6));
            due(7, x.told(1, 6));
            due(0, x.told(2, 6));
        });
        holds("it holds 5 times its WEIGHT (BRASS)", () -> {
            LoveLocks x = panels(1);
            x.hang(0, 0, 10, 0, 0);
            x.hangOn(0, 50, 1, 0);
            due(NONE, x.over());
            due(0, x.giveWay());
            x.hangOn(0, 1, 1, 0);
            due(0, x.over());
            due(3, x.giveWay());
        });
        holds("9 times (STEEL)", () -> {
            LoveLocks x = panels(1);
            x.hang(0, 0, 10, 1, 0);
            x.hangOn(0, 90, 0, 0);
            due(NONE, x.over());
            due(0, x.giveWay());
            x.hangOn(0, 1, 0, 0);
            due(0, x.over());
            due(3, x.giveWay());
        });
        holds("a BAR has more than its LIMIT", () -> {
            LoveLocks x = new LoveLocks();
            x.panel(50, 99999, 99999);
            for (int b = 0; b < 3; b++) {
                x.hang(0, b, 49, 0, 0);
                x.hangOn(2 * b, 1, 0, 0);
            }
            due(NONE, x.over());
            x.hangOn(5, 1, 0, 0);
            due(102, x.over());
            x.hangOn(3, 1, 0, 0);
            due(101, x.over());
            x.hangOn(1, 1, 0, 0);
            due(100, x.over());
            due(9, x.giveWay());
        });
        holds("the least PANEL that has more than its LIMIT", () -> {
            LoveLocks x = new LoveLocks();
            x.panel(99999, 60, 99999);
            x.panel(99999, 60, 99999);
            x.hang(1, 0, 20, 0, 0);
            x.hang(1, 1, 20, 0, 0);
            x.hang(1, 2, 20, 0, 0);
            due(NONE, x.over());
            x.hang(1, 2, 1, 0, 0);
            due(201, x.over());
            x.hang(0, 0, 61, 0, 0);
            due(200, x.over());
            due(5, x.giveWay());
        });
        holds("or SAGS more: all of it", () -> {
            LoveLocks x = new LoveLocks();
            x.panel(99999, 99999, 100);
            x.hang(0, 0, 10, 0, 0);
            x.hang(0, 1, 40, 0, 0);
            x.hang(0, 2, 10, 0, 0);
            due(NONE, x.over());
            due(0, x.giveWay());
            x.hang(0, 0, 1, 0, 0);
            due(200, x.over());
            due(4, x.giveWay());
            due(0, x.load(0, 3));
        });
        holds("the least LOCK that BEARS more than it holds", () -> {
            LoveLocks x = panels(1);
            x.hang(0, 0, 9, 0, 0);
            x.hangOn(0, 8, 0, 0);
            x.hangOn(1, 41, 0, 0);
            // 0 bears 49 of 45, 1 bears 41 of 40
            due(0, x.over());
            due(3, x.giveWay());
        });
        holds("it falls, with all that hangs on it", () -> {
            LoveLocks x = panels(1);
            x.hang(0, 0, 10, 0, 0);
            x.hangOn(0, 8, 0, 0);
            x.hangOn(1, 41, 0, 0);
            due(1, x.over());
            due(2, x.giveWay());
            due(1, x.on(0, 0));
        });
        holds("a LOCK ahead of a BAR (if there is none ..)", () -> {
            LoveLocks x = new LoveLocks();
            x.panel(60, 99999, 99999);
            x.hang(0, 0, 5, 0, 0);
            x.hang(0, 0, 10, 0, 0);
            x.hangOn(1, 51, 0, 0);
            due(1, x.over());
            due(2, x.giveWay());
            due(1, x.on(0, 0));
        });
        holds("a BAR ahead of a PANEL (if there is none ..)", () -> {
            LoveLocks x = new LoveLocks();
            x.panel(50, 60, 99999);
            x.panel(50, 60, 99999);
            x.hang(0, 0, 31, 0, 0);
            x.hang(0, 1, 31, 0, 0);
            x.hang(1, 0, 20, 0, 0);
            x.hang(1, 1, 51, 0, 0);
            // panel 0 has 62, but bar 1 of panel 1 comes ahead, and panel 1 has 20 then
            due(111, x.over());
            due(3, x.giveWay());
            due(4, x.on(1, 0));
            due(0, x.on(1, 1));
        });
        holds("all of the least such BAR", () -> {
            LoveLocks x = new LoveLocks();
            x.panel(10, 99999, 99999);
            x.hang(0, 2, 11, 0, 0);
            x.hang(0, 1, 3, 0, 0);
            x.hangOn(1, 4, 0, 0);
            x.hang(0, 1, 4, 0, 0);
            x.hang(0, 0, 10, 0, 0);
            due(101, x.over());
            due(4, x.giveWay());
            due(16, x.on(0, 0));
        });
        holds("It GIVES WAY, while something has more than it holds", () -> {
            LoveLocks x = new LoveLocks();
            x.panel(10, 15, 99999);
            x.panel(99999, 99999, 20);
            x.hang(0, 0, 2, 0, 0);
            x.hangOn(0, 11, 0, 0);
            x.hang(0, 1, 11, 0, 0);
            x.hang(0, 2, 8, 0, 0);
            x.hang(0, 0, 8, 0, 0);
            x.hang(1, 1, 11, 0, 0);
            x.hang(1, 0, 1, 0, 0);
            // lock 0 with 1, then bar 1, then panel 0 (16), then panel 1 (sags 23)
            due(7, x.giveWay());
            due(7, x.count(2));
            due(NONE, x.over());
            due(0, x.giveWay());
        });
        holds("It GIVES WAY .. one behind the other, as long as it needs", () -> {
            LoveLocks x = new LoveLocks();
            for (int p = 0; p < 6; p++) {
                x.panel(1, 99999, 99999);
            }
            for (int k = 0; k < 14; k++) {
                x.hang(k / 3, k % 3, 2, 0, 0);
            }
            due(100, x.over());
            due(14, x.giveWay());
            due(NONE, x.over());
        });
        holds("What falls is GONE", () -> {
            LoveLocks x = new LoveLocks();
            x.panel(10, 10, 10);
            x.hang(0, 0, 9, 0, 0);
            x.hangOn(0, 2, 0, 0);
            due(2, x.giveWay());
            due(1, x.told(0, 7));
            due(1, x.told(1, 7));
            due(NOT, x.cut(0));
            due(NOT, x.cut(1));
            due(NOT, x.hangOn(0, 1, 0, 0));
            due(2, x.count(2));
        });
        holds("over: 100 and 10 PANEL and BAR, 200 and PANEL; NONE: nothing", () -> {
            for (int p = 0; p < 6; p++) {
                for (int b = 0; b < 3; b++) {
                    LoveLocks x = new LoveLocks();
                    LoveLocks y = new LoveLocks();
                    for (int k = 0; k < 6; k++) {
                        x.panel(9, 99999, 99999);
                        y.panel(9, 9, 99);
                    }
                    due(NONE, x.over());
                    x.hang(p, b, 10, 0, 0);
                    due(100 + 10 * p + b, x.over());
                    due(1, x.giveWay());
                    y.hang(p, b, 9, 0, 0);
                    due(NONE, y.over());
                    y.hang(p, (b + 1) % 3, 1, 0, 0);
                    due(200 + p, y.over());
                    due(2, y.giveWay());
                }
            }
        });
        holds("giveWay: 0, where nothing has more", () -> {
            due(0, new LoveLocks().giveWay());
            due(0, locks(14).giveWay());
            LoveLocks x = new LoveLocks();
            x.panel(1, 1, 1);
            x.hang(0, 0, 1, 0, 0);
            due(0, x.giveWay());
        });
    }

    // ---- 2 sights

    private static void sights() {
        holds("SIGHTS (12 in all); FULL: 12", () -> {
            LoveLocks x = panels(6);
            for (int k = 0; k < 12; k++) {
                due(k + 1, k % 2 == 0 ? x.photo(k / 2, 5, 5) : x.truck(k / 2, 60, 0, 6, 12));
            }
            due(FULL, x.photo(0, 6, 0));
            due(FULL, x.truck(5, 60, 0, 10, 10));
            due(12, x.count(3));
            for (int p = 0; p < 6; p++) {
                due(5, x.span(p, 0));
                due(10, x.span(p, 1));
            }
        });
        holds("SEEN, and HIDDEN at most (0 .. 999 each): SEEN to both together", () -> {
            int[] off = {-1, 1000, MIN, MAX};
            for (int v : off) {
                due(BAD, panels(1).photo(0, v, 0));
                due(BAD, panels(1).photo(0, 0, v));
            }
            int[][] on = {{0, 0}, {999, 0}, {0, 999}, {999, 999}, {3, 4}};
            for (int[] v : on) {
                LoveLocks x = panels(1);
                due(1, x.photo(0, v[0], v[1]));
                due(v[0], x.span(0, 0));
                due(v[0] + v[1], x.span(0, 1));
            }
        });
        holds("WEIGHT (0 .. 99999), off by so much at most (0 .. 9999)", () -> {
            int[] off = {-1, 100000, MIN, MAX};
            for (int w : off) {
                due(BAD, panels(1).truck(0, w, 0, 1, 1));
            }
            off[1] = 10000;
            for (int o : off) {
                due(BAD, panels(1).truck(0, 50000, o, 1, 1));
            }
            due(1, panels(1).truck(0, 0, 9999, 1, 1));
            due(1, panels(1).truck(0, 99999, 0, 1, 1));
        });
        holds("LOCKS of LEAST to MOST each (1 .. 999); BAD: also LEAST above MOST", () -> {
            int[] off = {0, -1, 1000, MIN, MAX};
            for (int v : off) {
                due(BAD, panels(1).truck(0, 10, 0, v, 999));
                due(BAD, panels(1).truck(0, 10, 0, 1, v));
                due(BAD, panels(1).truck(0, 10, 0, v, v));
            }
            due(1, panels(1).truck(0, 10, 0, 1, 1));
            due(1, panels(1).truck(0, 10, 0, 999, 999));
            due(1, panels(1).truck(0, 10, 0, 1, 999));
            due(1, panels(1).truck(0, 10, 0, 7, 7));
            due(BAD, panels(1).truck(0, 10, 0, 8, 7));
            due(BAD, panels(1).truck(0, 10, 0, 999, 998));
            due(BAD, panels(1).truck(0, 10, 0, 999, 1));
        });
        holds("from (WEIGHT less off) by MOST, to the higher whole one", () -> {
            int[][] rows = {{100, 0, 10, 10}, {101, 0, 10, 11}, {109, 0, 10, 11}, {110, 0, 10, 11}, {111, 0, 10, 12},
                {110, 10, 10, 10}, {110, 9, 10, 11}, {1, 0, 999, 1}, {999, 0, 999, 1}, {1000, 0, 999, 2}, {1, 0, 1, 1}};
            for (int[] r : rows) {
                LoveLocks x = panels(1);
                x.truck(0, r[0], r[1], 1, r[2]);
                due(r[3], x.span(0, 0));
            }
        });
        holds("(0 at least)", () -> {
            int[][] rows = {{0, 0}, {0, 1}, {5, 5}, {5, 6}, {5, 9999}, {0, 9999}};
            for (int[] r : rows) {
                LoveLocks x = panels(1);
                x.truck(0, r[0], r[1], 1, 3);
                due(0, x.span(0, 0));
                due(r[0] + r[1], x.span(0, 1));
            }
            LoveLocks x = panels(1);
            x.truck(0, 6, 5, 1, 3);
            due(1, x.span(0, 0));
            LoveLocks y = panels(1);
            y.truck(0, 5, 6, 1, 1);
            due(0, y.span(0, 0));
            due(11, y.span(0, 1));
        });
        holds("to (WEIGHT and off) by LEAST (Divisions are cut)", () -> {
            int[][] rows = {{100, 0, 10, 10}, {99, 0, 10, 9}, {99, 1, 10, 10}, {109, 0, 10, 10}, {4, 5, 10, 0}, {5, 4, 3, 3}};
            for (int[] r : rows) {
                LoveLocks x = panels(1);
                x.truck(0, r[0], r[1], r[2], 999);
                due(r[3], x.span(0, 1));
            }
        });
        holds("0 .. 99999, if there are none", () -> {
            LoveLocks x = panels(2);
            x.photo(0, 7, 1);
            due(0, x.span(1, 0));
            due(99999, x.span(1, 1));
            due(7, x.span(0, 0));
            due(8, x.span(0, 1));
        });
        holds("with SIGHTS it has no such bound", () -> {
            LoveLocks x = panels(1);
            x.truck(0, 99999, 9999, 1, 1);
            due(90000, x.span(0, 0));
            due(109998, x.span(0, 1));
            x.truck(0, 99999, 1, 1, 1);
            due(99998, x.span(0, 0));
            due(100000, x.span(0, 1));
        });
        holds("what all SIGHTS of it let", () -> {
            LoveLocks x = panels(2);
            x.photo(0, 10, 10);
            x.photo(1, 0, 1);
            due(10, x.span(0, 0));
            due(20, x.span(0, 1));
            x.photo(0, 5, 13);
            due(10, x.span(0, 0));
            due(18, x.span(0, 1));
            x.truck(0, 36, 0, 2, 3);
            due(12, x.span(0, 0));
            due(18, x.span(0, 1));
            x.photo(0, 0, 999);
            due(12, x.span(0, 0));
            due(18, x.span(0, 1));
        });
        holds("none, if that is nothing (span: NONE)", () -> {
            LoveLocks x = panels(2);
            x.photo(0, 5, 5);
            x.photo(0, 10, 5);
            due(10, x.span(0, 0));
            due(10, x.span(0, 1));
            x.photo(0, 11, 0);
            due(NONE, x.span(0, 0));
            due(NONE, x.span(0, 1));
            x.photo(0, 0, 999);
            due(NONE, x.span(0, 0));
            x.truck(1, 11, 0, 6, 10);
            due(NONE, x.span(1, 1));
            due(6, x.photo(1, 1, 1));
            due(NONE, x.span(1, 0));
        });
        holds("span: the least (0), the most (1), else BAD", () -> {
            int[] off = {-1, 2, MIN, MAX};
            for (int what : off) {
                due(BAD, panels(1).span(0, what));
            }
        });
        holds("SAFE: the most of its SPAN, each of that WEIGHT, are within its LIMIT", () -> {
            LoveLocks x = new LoveLocks();
            x.panel(1, 1000, 1);
            x.photo(0, 3, 7);
            due(1, x.safe(0, 100));
            due(0, x.safe(0, 101));
            LoveLocks y = new LoveLocks();
            y.panel(99999, 9, 99999);
            y.photo(0, 0, 10);
            due(0, y.safe(0, 1));
            y.photo(0, 0, 9);
            due(1, y.safe(0, 1));
            y.photo(0, 0, 0);
            due(1, y.safe(0, 999));
        });
        holds("SAFE without SIGHTS: by 99999", () -> {
            LoveLocks x = new LoveLocks();
            x.panel(1, 99999, 1);
            x.panel(99999, 99998, 99999);
            due(1, x.safe(0, 1));
            due(0, x.safe(0, 2));
            due(0, x.safe(1, 1));
        });
        holds("SAFE at a WEIGHT (1 .. 999)", () -> {
            LoveLocks x = panels(1);
            x.photo(0, 0, 100);
            int[] off = {0, -1, 1000, MIN, MAX};
            for (int w : off) {
                due(BAD, x.safe(0, w));
            }
            due(1, x.safe(0, 1));
            due(1, x.safe(0, 999));
        });
        holds("safe .. NONE: there is no SPAN", () -> {
            LoveLocks x = panels(2);
            x.photo(0, 1, 0);
            x.photo(0, 0, 0);
            due(NONE, x.safe(0, 1));
            due(NONE, x.safe(0, 999));
            due(1, x.safe(1, 1));
        });
    }

    // ---- 3 names

    private static void tapeAndNames() {
        holds("The n lowest bytes (1 .. 8) of w, of these the highest first", () -> {
            int[] off = {0, -1, 9, MIN, MAX};
            for (int n : off) {
                due(BAD, new LoveLocks().type(0x4141414141414141L, n));
            }
            LoveLocks x = locks(1);
            due(8, x.type(0x414243444546202BL, 8));
            due(9, x.type(0x58595A57L, 1));
            due(7, x.letters(0));
            person(x, "ABCDEF");
            person(x, "W");
            due(1, x.readings(0));
            due(2, x.type(0xFFFFFFFFFFFF4158L, 2));
            due(2, x.person());
            letters(x, 0, "A?+W");
            due(1, x.readings(0));
        });
        holds("BAD: n, a byte not 32 .. 126", () -> {
            for (int b = 0; b < 256; b++) {
                boolean good = b >= 32 && b <= 126;
                due(good ? 1 : BAD, new LoveLocks().type(b, 1));
                due(good ? 8 : BAD, new LoveLocks().type((long) b << 56 | 0x41414141414141L, 8));
                due(good ? 3 : BAD, new LoveLocks().type(0x410041L | b << 8, 3));
                due(1, new LoveLocks().type(0x41L | b << 8, 1));
            }
        });
        holds("FULL: 40", () -> {
            LoveLocks x = new LoveLocks();
            for (int k = 1; k <= 4; k++) {
                due(8 * k, x.type(0x2020202020202020L, 8));
            }
            due(39, x.type(0x20202020202020L, 7));
            due(FULL, x.type(0x2020, 2));
            due(FULL, x.type(0x2020202020202020L, 8));
            due(40, x.type(0x41, 1));
            due(FULL, x.type(0x41, 1));
            due(0, x.person());
            due(1, x.type(0x41, 1));
            LoveLocks y = new LoveLocks();
            for (int k = 1; k <= 5; k++) {
                due(8 * k, y.type(0x4141414141414141L, 8));
            }
            due(FULL, y.type(0x41, 1));
        });
        holds("a NAME: 1 to 6 letters A .. Z", () -> {
            LoveLocks x = new LoveLocks();
            due(-20, x.person());
            due(0, person(x, "A"));
            due(1, person(x, "ABCDEZ"));
            due(-26, person(x, "ABCDEFG"));
            due(2, x.count(4));
            for (int b = 32; b < 127; b++) {
                LoveLocks y = new LoveLocks();
                y.type(b, 1);
                due(b >= 'A' && b <= 'Z' ? 0 : b == 32 ? -21 : -20, y.person());
            }
        });
        holds("PEOPLE 0 .. 7, as they come; FULL; 8", () -> {
            LoveLocks x = new LoveLocks();
            for (int k = 0; k < 8; k++) {
                due(k, person(x, "A"));
            }
            due(FULL, person(x, "A"));
            due(FULL, person(x, "ABCDEF"));
            due(8, x.count(4));
            due(0, x.where(7, 0));
            due(BAD, x.where(8, 0));
        });
        holds("-20 less the place of the first byte that can't stand there", () -> {
            String[] texts = {"1", "A1", "AB1", "ABCDE1", "ABCDEF1", "a1", "A?", "A+", "+"};
            int[] want = {-20, -21, -22, -25, -26, -20, -21, -21, -20};
            for (int k = 0; k < texts.length; k++) {
                due(want[k], person(new LoveLocks(), texts[k]));
            }
        });
        holds("(a seventh letter)", () -> {
            due(-26, person(new LoveLocks(), "ABCDEFG"));
            due(-26, person(new LoveLocks(), "ABCDEFGH"));
            due(-26, letters(locks(1), 0, "ABCDEFG+A"));
            due(-26, letters(locks(1), 0, "???????+A"));
            due(-28, letters(locks(1), 0, "A+ABCDEFG"));
            due(-33, letters(locks(1), 0, "ABCDEF+ABCDEFG"));
            due(12, letters(locks(1), 0, "ABCDEF+ABCDEF"));
        });
        holds("(the end: how many bytes there are)", () -> {
            due(-20, new LoveLocks().person());
            due(-20, locks(1).letters(0));
            due(-21, letters(locks(1), 0, "A"));
            due(-26, letters(locks(1), 0, "ABCDEF"));
            due(-22, letters(locks(1), 0, "A+"));
            due(-27, letters(locks(1), 0, "ABCDEF+"));
        });
        holds("the end behind bytes 32: all of THE TAPE", () -> {
            due(-21, person(new LoveLocks(), " "));
            due(-23, letters(locks(1), 0, " A "));
            due(-24, letters(locks(1), 0, "A + "));
            LoveLocks x = new LoveLocks();
            for (int k = 0; k < 5; k++) {
                x.type(0x2020202020202020L, 8);
            }
            due(-60, x.person());
        });
        holds("bytes 32 count for nothing", () -> {
            LoveLocks x = locks(1);
            due(0, person(x, " A B "));
            due(1, person(x, "AB"));
            due(2, person(x, "A B C D E F"));
            due(5, letters(x, 0, "  A B + A  B ? "));
            due(4, letters(x, 0, " A B+A ?  "));
            due(1, x.readings(0));
            due(-23, person(x, " A 1"));
            due(-28, person(x, "ABC DEF G"));
        });
        holds("THE TAPE, which is empty then (person)", () -> {
            LoveLocks x = new LoveLocks();
            due(0, person(x, "AB"));
            due(1, x.type('A', 1));
        });
        holds("THE TAPE, which is empty then (person, by a FAULT)", () -> {
            LoveLocks x = new LoveLocks();
            due(-21, person(x, "A1"));
            due(1, x.type('A', 1));
            due(0, x.person());
            due(-26, person(x, "ABCDEFG"));
            due(-20, x.person());
        });
        holds("THE TAPE, which is empty then (person, by FULL, too)", () -> {
            LoveLocks x = new LoveLocks();
            for (int k = 0; k < 8; k++) {
                person(x, "A");
            }
            due(FULL, person(x, "AB"));
            due(-20, x.person());
            due(1, x.type('A', 1));
        });
    }

    private static void lettersOfLocks() {
        holds("two NAMES with + between", () -> {
            String[] texts = {"+", "+A", "A++B", "A+B+", "A+B+C", "A+B1", "A1+B", "A+1", "AB", "a+B", "A+b", "A,B", "A*B", "A-B"};
            int[] want = {-20, -20, -22, -23, -23, -23, -21, -22, -22, -20, -22, -21, -21, -21};
            for (int k = 0; k < texts.length; k++) {
                LoveLocks x = locks(1);
                due(want[k], letters(x, 0, texts[k]));
                due(NOT, x.readings(0));
            }
            due(2, letters(locks(1), 0, "A+B"));
        });
        holds("in which ? is a letter that is worn", () -> {
            for (int b = 33; b < 127; b++) {
                LoveLocks x = locks(1);
                boolean good = b >= 'A' && b <= 'Z' || b == '?';
                due(good ? 3 : -21 - (b == '+' ? 1 : 0), letters(x, 0, "A" + (char) b + "+B"));
                due(good ? 1 : 0, x.count(5));
            }
            due(12, letters(locks(1), 0, "??????+??????"));
            due(2, letters(locks(1), 0, "?+?"));
        });
        holds("how many letters there are in both", () -> {
            for (int a = 1; a <= 6; a++) {
                for (int b = 1; b <= 6; b++) {
                    due(a + b, letters(locks(1), 0, "ABCDEF".substring(0, a) + "+" + "??Z???".substring(0, b)));
                }
            }
        });
        holds("letters .. BAD (THE TAPE stays)", () -> {
            LoveLocks x = locks(1);
            tape(x, "A+B");
            int[] off = {-1, 1, 14, MIN, MAX};
            for (int l : off) {
                due(BAD, x.letters(l));
            }
            due(4, x.type('C', 1));
            due(3, x.letters(0));
        });
        holds("THE TAPE, which is empty then (letters)", () -> {
            LoveLocks x = locks(1);
            due(2, letters(x, 0, "A+B"));
            due(1, x.type('A', 1));
        });
        holds("THE TAPE, which is empty then (letters, by a FAULT)", () -> {
            LoveLocks x = locks(1);
            due(-21, letters(x, 0, "A"));
            due(-20, x.letters(0));
            due(2, letters(x, 0, "A+B"));
        });
        holds("THE TAPE, which is empty then (letters, by FULL, too)", () -> {
            LoveLocks x = locks(13);
            for (int l = 0; l < 12; l++) {
                letters(x, l, "A+B");
            }
            due(FULL, letters(x, 12, "A+B"));
            due(-20, x.letters(12));
            due(1, x.type('A', 1));
        });
        holds("FULL: 12 other LOCKS have LETTERS", () -> {
            LoveLocks x = locks(14);
            for (int l = 13; l >= 2; l--) {
                due(2, letters(x, l, "A+B"));
            }
            due(12, x.count(5));
            due(FULL, letters(x, 1, "A+B"));
            due(FULL, letters(x, 0, "A+B"));
            due(12, x.count(5));
            due(NOT, x.readings(0));
            for (int l = 2; l < 14; l++) {
                due(4, letters(x, l, "AB+CD"));
            }
            due(12, x.count(5));
        });
        holds("(in place of those that it had)", () -> {
            LoveLocks x = locks(1);
            person(x, "AA");
            person(x, "BB");
            person(x, "CC");
            letters(x, 0, "??+??");
            due(3, x.readings(0));
            due(4, letters(x, 0, "AA+B?"));
            due(1, x.readings(0));
            due(1, x.count(5));
            due(-22, letters(x, 0, "AA"));
            due(1, x.readings(0));
        });
        holds("LETTERS of a LOCK that is GONE", () -> {
            LoveLocks x = locks(1);
            person(x, "A");
            person(x, "B");
            x.cut(0);
            due(2, letters(x, 0, "A+?"));
            due(1, x.readings(0));
            due(1, x.count(5));
        });
        holds("both have as many letters", () -> {
            LoveLocks x = locks(1);
            person(x, "ABC");
            person(x, "ABCDEF");
            letters(x, 0, "???+??????");
            due(1, x.readings(0));
            String[] texts = {"??+??????", "????+??????", "???+?????", "???+?", "AB+ABCDEF", "BC+ABCDEF", "?ABC+ABCDEF", "ABC?+ABCDEF"};
            for (String t : texts) {
                letters(x, 0, t);
                due(0, x.readings(0));
            }
        });
        holds("and the same ones but for ?", () -> {
            LoveLocks x = locks(1);
            person(x, "ABCDEF");
            person(x, "Z");
            String[] yes = {"ABCDEF+Z", "?BCDEF+Z", "ABCDE?+?", "??????+?", "A?C?E?+Z", "Z+ABCDEF", "?+?BCDE?"};
            String[] no = {"BBCDEF+Z", "ABCDEE+Z", "ABDDEF+Z", "?BCDEE+Z", "??????+Y", "FEDCBA+Z"};
            for (String t : yes) {
                letters(x, 0, t);
                due(1, x.readings(0));
            }
            for (String t : no) {
                letters(x, 0, t);
                due(0, x.readings(0));
            }
        });
        holds("two PEOPLE (in any order) count once", () -> {
            LoveLocks x = locks(1);
            person(x, "A");
            letters(x, 0, "A+A");
            due(0, x.readings(0));
            person(x, "A");
            due(1, x.readings(0));
            letters(x, 0, "?+A");
            due(1, x.readings(0));
            person(x, "B");
            due(2, letters(x, 0, "?+A"));
            due(3, x.readings(0));
            letters(x, 0, "B+A");
            due(2, x.readings(0));
        });
        holds("readings .. NOT: it has none", () -> {
            LoveLocks x = locks(2);
            due(NOT, x.readings(0));
            letters(x, 0, "A+B");
            due(0, x.readings(0));
            due(NOT, x.readings(1));
        });
    }

    /** Three PEOPLE A, B, C; two LOCKS of YEAR 3, one of YEAR 4. */
    private static LoveLocks people() {
        LoveLocks x = panels(1);
        x.hang(0, 0, 1, 0, 3);
        x.hang(0, 0, 1, 0, 3);
        x.hang(0, 0, 1, 0, 4);
        person(x, "A");
        person(x, "B");
        person(x, "C");
        return x;
    }

    /** Of YEAR 3 A and any, B and any; of YEAR 4 C and D; of YEAR 2 B and any. */
    private static LoveLocks years() {
        LoveLocks x = people();
        person(x, "D");
        x.hang(0, 0, 1, 0, 2);
        letters(x, 0, "A+?");
        letters(x, 1, "B+?");
        letters(x, 2, "C+D");
        letters(x, 3, "B+?");
        return x;
    }

    private static void ways() {
        holds("WAYS: one, if no LOCK has LETTERS", () -> {
            due(1, new LoveLocks().ways());
            due(1, people().ways());
            due(0, people().where(0, 0));
            due(0, people().where(0, 1));
        });
        holds("(GONE ones, too)", () -> {
            LoveLocks x = people();
            letters(x, 0, "A+?");
            due(2, x.ways());
            x.cut(0);
            due(2, x.ways());
            due(7, x.who(0, 0));
            due(1, x.who(0, 1));
            letters(x, 1, "A+B");
            due(0, x.ways());
        });
        holds("no one on two LOCKS of one YEAR", () -> {
            LoveLocks x = people();
            letters(x, 0, "A+B");
            letters(x, 2, "A+B");
            due(1, x.ways());
            letters(x, 1, "C+A");
            due(0, x.ways());
            LoveLocks y = people();
            person(y, "D");
            letters(y, 0, "A+?");
            letters(y, 1, "?+?");
            due(3, y.ways());
            person(y, "E");
            due(4 * 3, y.ways());
        });
        holds("who, where: each YEAR by itself, asked at once", () -> {
            int[] some = {13, 14, 12, 15};
            int[] all = {1, 2, 12, 2};
            int[] someLocks = {9, 10, 15, 15};
            int[] allLocks = {1, 10, 4, 4};
            for (int k = 0; k < 4; k++) {
                due(some[k], years().who(k, 0));
                due(all[k], years().who(k, 1));
                due(someLocks[k], years().where(k, 0));
                due(allLocks[k], years().where(k, 1));
            }
            due(6, years().ways());
        });
        holds("who, where: by the LETTERS that are there now", () -> {
            LoveLocks x = people();
            letters(x, 0, "?+?");
            due(7, x.who(0, 0));
            due(0, x.who(0, 1));
            due(1, x.where(2, 0));
            letters(x, 0, "A+B");
            due(3, x.who(0, 0));
            due(3, x.who(0, 1));
            due(0, x.where(2, 0));
            due(1, x.where(1, 1));
        });
        holds("ways is long", () -> {
            LoveLocks x = locks(12);
            for (int k = 0; k < 8; k++) {
                person(x, "A");
            }
            long want = 1;
            for (int l = 0; l < 12; l++) {
                letters(x, l, "A+A");
                want *= 28;
                due(want, x.ways());
            }
        });
        holds("who: in some WAY (0), in all (1), else BAD", () -> {
            LoveLocks x = people();
            letters(x, 0, "A+?");
            due(7, x.who(0, 0));
            due(1, x.who(0, 1));
            int[] off = {-1, 2, MIN, MAX};
            for (int what : off) {
                due(BAD, x.who(0, what));
                due(BAD, x.where(0, what));
            }
        });
        holds("who .. NOT: it has no LETTERS", () -> {
            LoveLocks x = people();
            letters(x, 0, "A+?");
            due(NOT, x.who(1, 0));
            due(NOT, x.who(2, 1));
        });
        holds("who .. NONE: there is no WAY", () -> {
            LoveLocks x = people();
            letters(x, 0, "A+Z");
            letters(x, 2, "A+B");
            due(NONE, x.who(0, 0));
            due(NONE, x.who(2, 0));
            due(NONE, x.who(2, 1));
        });
        holds("where: LOCKS in some WAY (0), in all (1)", () -> {
            LoveLocks x = people();
            letters(x, 0, "A+?");
            letters(x, 2, "B+C");
            due(1, x.where(0, 0));
            due(1, x.where(0, 1));
            due(5, x.where(1, 0));
            due(4, x.where(1, 1));
            due(5, x.where(2, 0));
            due(4, x.where(2, 1));
        });
        holds("where .. BAD: no such person", () -> {
            LoveLocks x = people();
            int[] off = {-1, 3, 7, 8, MIN, MAX};
            for (int p : off) {
                due(BAD, x.where(p, 0));
            }
            due(0, x.where(2, 0));
            due(BAD, new LoveLocks().where(0, 0));
        });
        holds("where .. NONE: no WAY", () -> {
            LoveLocks x = people();
            letters(x, 0, "A+Z");
            due(NONE, x.where(0, 0));
            due(NONE, x.where(2, 1));
        });
    }

    // ---- 4 cuts, growth

    private static void cuts() {
        holds("up to C PANELS (1 .. 3; 2 at first)", () -> {
            LoveLocks x = new LoveLocks();
            int[] off = {0, -1, 4, MIN, MAX};
            for (int v : off) {
                due(BAD, x.nightly(v));
            }
            due(2, x.nightly(1));
            due(1, x.nightly(3));
            due(3, x.nightly(2));
            int[] cost = {0, 10 + 20 + 30, 10 + 10, 10};
            for (int c = 1; c <= 3; c++) {
                LoveLocks y = panels(4);
                for (int p = 0; p < 4; p++) {
                    y.risk(p, 0, 10);
                }
                due(2, y.nightly(c));
                due(cost[c], y.order(-1));
            }
        });
        holds("nightly: what it was", () -> {
            LoveLocks x = new LoveLocks();
            due(2, x.nightly(2));
            due(2, x.nightly(3));
            due(BAD, x.nightly(4));
            due(3, x.nightly(3));
        });
        holds("a RISK (0 .. 99; 0 at first)", () -> dueTerm(0, 99));
        holds("and GROWS (0 .. 9; 0 at first)", () -> dueTerm(1, 9));
        holds("KEPT (0 .. 5; 0 at first)", () -> dueTerm(2, 5));
        holds("risk: RISK (0), GROWS (1), KEPT (2), else BAD", () -> {
            int[] off = {-1, 3, MIN, MAX};
            for (int what : off) {
                due(BAD, panels(1).risk(0, what, 0));
            }
        });
        holds("none ahead of the NIGHT till which it is KEPT", () -> {
            for (int k = 0; k <= 5; k++) {
                LoveLocks x = panels(1);
                x.risk(0, 0, 9);
                x.risk(0, 2, k);
                due(k, x.order(0));
                due(9 * k, x.order(-1));
            }
        });
        holds("behind NIGHT n what is not cut costs its RISK and n times GROWS", () -> {
            int[] cost = {0, 50, 50 + 57, 50 + 57 + 64, 50 + 57 + 64 + 71, 50 + 57 + 64 + 71 + 78};
            for (int k = 0; k <= 5; k++) {
                LoveLocks x = panels(1);
                x.risk(0, 0, 50);
                x.risk(0, 1, 7);
                x.risk(0, 2, k);
                due(cost[k], x.order(-1));
            }
        });
        holds("GROWS costs nothing behind NIGHT 0", () -> {
            LoveLocks x = panels(2);
            x.nightly(1);
            x.risk(0, 1, 9);
            x.risk(1, 1, 9);
            due(0, x.order(-1));
            due(0, x.order(0));
            due(1, x.order(1));
        });
        holds("all are cut by NIGHT 11", () -> {
            int[][] night = {{6, 7, 8, 9, 10, 11}, {9, 9, 10, 10, 11, 11}, {10, 10, 10, 11, 11, 11}};
            for (int c = 1; c <= 3; c++) {
                LoveLocks x = panels(6);
                x.nightly(c);
                due(0, x.order(-1));
                for (int p = 0; p < 6; p++) {
                    due(night[c - 1][p], x.order(p));
                }
            }
            due(11, panels(1).order(0));
        });
        holds("of like ones that by which the PANELS of NIGHT 0 are the least set", () -> {
            LoveLocks x = panels(4);
            for (int p = 0; p < 4; p++) {
                x.risk(p, 0, 5);
            }
            due(10, x.order(-1));
            int[] night = {0, 0, 1, 1};
            for (int p = 0; p < 4; p++) {
                due(night[p], x.order(p));
            }
            // of RISK 9 and 4, 4, 1 a night in all: 2 and one of 0, 1 go first, and 0 is the lesser set
            LoveLocks y = panels(3);
            y.risk(0, 0, 4);
            y.risk(1, 0, 4);
            y.risk(2, 0, 9);
            due(4, y.order(-1));
            due(0, y.order(0));
            due(1, y.order(1));
            due(0, y.order(2));
        });
        holds("then those of NIGHT 1, and so on", () -> {
            LoveLocks x = panels(6);
            x.nightly(1);
            for (int p = 0; p < 6; p++) {
                x.risk(p, 0, 5);
            }
            for (int p = 0; p < 6; p++) {
                due(p, x.order(p));
            }
            LoveLocks y = panels(3);
            y.risk(2, 0, 1);
            due(0, y.order(-1));
            due(11, y.order(0));
            due(11, y.order(1));
            due(0, y.order(2));
        });
        holds("order .. BAD: no such PANEL (-1 is its cost)", () -> {
            LoveLocks x = panels(6);
            int[] off = {-2, 6, MIN, MAX};
            for (int p : off) {
                due(BAD, x.order(p));
            }
            due(11, x.order(5));
            due(0, x.order(-1));
        });
        holds("order .. NOT: no PANELS", () -> {
            LoveLocks x = new LoveLocks();
            due(NOT, x.order(-1));
            due(BAD, x.order(0));
            x.panel(1, 1, 1);
            due(0, x.order(-1));
        });
    }

    private static void dueTerm(int what, int most) {
        LoveLocks x = panels(2);
        int[] off = {-1, most + 1, MIN, MAX};
        for (int v : off) {
            due(BAD, x.risk(1, what, v));
        }
        due(0, x.risk(1, what, most));
        for (int v : off) {
            due(BAD, x.risk(1, what, v));
        }
        due(most, x.risk(1, what, 0));
        due(0, x.risk(1, what, 1));
        due(1, x.risk(1, what, 0));
        due(0, x.risk(0, what, 0));
        for (int other = 0; other < 3; other++) {
            due(0, x.risk(1, other, 0));
        }
    }

    private static void growth() {
        holds("COUNTS of MONTHS 0 .. 11", () -> {
            LoveLocks x = new LoveLocks();
            int[] off = {-1, 12, MIN, MAX};
            for (int m : off) {
                due(BAD, x.month(m, 0, 1));
                due(BAD, x.grown(m, 0));
            }
            due(210, x.laws(0));
            due(1, x.month(0, 0, 0));
            due(1, x.month(11, 0, 0));
            due(21, x.laws(0));
        });
        holds("a least and a most (0 .. 9999 each, the least no more)", () -> {
            LoveLocks x = new LoveLocks();
            due(BAD, x.month(3, -1, 5));
            due(BAD, x.month(3, MIN, 5));
            due(BAD, x.month(3, 5, 10000));
            due(BAD, x.month(3, 5, MAX));
            due(BAD, x.month(3, 10000, 10000));
            due(BAD, x.month(3, -1, -1));
            due(BAD, x.month(3, 6, 5));
            due(BAD, x.month(3, 9999, 0));
            due(210, x.laws(0));
            due(1, x.month(3, 5, 5));
            due(1, x.month(3, 0, 0));
            due(1, x.month(3, 9999, 9999));
            due(1, x.month(3, 0, 9999));
        });
        holds("any, if not told", () -> {
            LoveLocks x = new LoveLocks();
            due(0, x.grown(11, 0));
            due(210, x.laws(0));
            long n = 9999;
            for (int m = 0; m < 12; m++) {
                due(0, x.grown(m, 0));
                due(n, x.grown(m, 1));
                n = n + n * 20 / 100 + 9;
            }
            x.month(11, 0, 9999);
            due(9999, x.grown(11, 1));
            due(9999, x.grown(0, 1));
        });
        holds("from some COUNT of MONTH 0 (0 .. 9999)", () -> {
            LoveLocks x = new LoveLocks();
            due(0, x.grown(0, 0));
            due(9999, x.grown(0, 1));
            x.month(1, 9990, 9999);
            due(9999, x.grown(0, 1));
            // (9990 less 9) by 120, to the higher whole one
            due(8318, x.grown(0, 0));
            x.month(1, 0, 8);
            due(0, x.grown(0, 0));
            due(8, x.grown(0, 1));
            due(21 * 9, x.laws(0));
        });
        holds("a (0 .. 20)", () -> {
            LoveLocks x = new LoveLocks();
            x.month(0, 1000, 1000);
            x.month(1, 1200, 1200);
            due(1, x.laws(0));
            due(20, x.laws(1));
            due(0, x.laws(2));
            x.month(1, 1000, 1000);
            due(1, x.laws(0));
            due(0, x.laws(1));
            x.month(1, 1210, 1219);
            due(0, x.laws(0));
            x.month(1, 0, 999);
            due(0, x.laws(0));
        });
        holds("s (0 .. 9)", () -> {
            LoveLocks x = new LoveLocks();
            x.month(0, 0, 0);
            for (int s = 0; s <= 9; s++) {
                x.month(1, s, s);
                due(21, x.laws(0));
                due(s, x.laws(2));
            }
            x.month(1, 10, 10);
            due(0, x.laws(0));
        });
        holds("n times a by 100 (Divisions are cut)", () -> {
            LoveLocks x = new LoveLocks();
            x.month(0, 99, 99);
            x.month(1, 99, 99);
            due(2, x.laws(0));
            x.month(0, 100, 100);
            x.month(1, 100, 100);
            due(1, x.laws(0));
            x.month(0, 50, 50);
            x.month(1, 59, 59);
            // half of a, cut, and s are 9: two for each s, and 20 gives 10
            due(20, x.laws(0));
            due(0, x.laws(1));
            due(9, x.laws(2));
        });
        holds("The first LAW has the least a, then the least s", () -> {
            LoveLocks x = new LoveLocks();
            x.month(0, 100, 100);
            x.month(1, 103, 105);
            // 3 to 5 more: three for each a 0 .. 3, two for 4, one for 5
            due(15, x.laws(0));
            due(0, x.laws(1));
            due(3, x.laws(2));
            x.month(1, 112, 112);
            due(3, x.laws(1));
            due(9, x.laws(2));
        });
        holds("It FITS, if it leads from some COUNT .. through all that are told", () -> {
            LoveLocks x = new LoveLocks();
            x.month(0, 100, 110);
            x.month(2, 100, 110);
            x.month(4, 100, 110);
            x.month(11, 100, 110);
            due(1, x.laws(0));
            due(0, x.laws(1));
            due(100, x.grown(7, 0));
            due(110, x.grown(7, 1));
            x.month(7, 111, 111);
            due(0, x.laws(0));
            LoveLocks y = new LoveLocks();
            y.month(0, 5, 5);
            y.month(11, 16, 16);
            due(0, y.laws(1));
            due(1, y.laws(2));
        });
        holds("laws .. NONE: none FITS (1, 2)", () -> {
            LoveLocks x = new LoveLocks();
            x.month(0, 10, 10);
            x.month(1, 9, 9);
            due(0, x.laws(0));
            due(NONE, x.laws(1));
            due(NONE, x.laws(2));
            x.month(1, 10, 10);
            due(10, x.laws(0));
            due(0, x.laws(1));
            due(0, x.laws(2));
        });
        holds("laws: 0, 1, 2, else BAD", () -> {
            int[] off = {-1, 3, MIN, MAX};
            for (int what : off) {
                due(BAD, new LoveLocks().laws(what));
            }
        });
        holds("grown: from all COUNTS of MONTH 0 by which they do, the least (0), the most (1)", () -> {
            LoveLocks x = new LoveLocks();
            x.month(0, 50, 60);
            x.month(1, 66, 67);
            due(50, x.grown(0, 0));
            due(60, x.grown(0, 1));
            due(66, x.grown(1, 0));
            due(67, x.grown(1, 1));
            x.month(0, 50, 50);
            due(66, x.grown(1, 0));
            due(67, x.grown(1, 1));
            x.month(1, 69, 69);
            // but 20 with 9
            due(69 + 13 + 9, x.grown(2, 0));
            due(69 + 13 + 9, x.grown(2, 1));
            int[] off = {-1, 2, MIN, MAX};
            for (int what : off) {
                due(BAD, x.grown(0, what));
            }
        });
        holds("grown .. NONE", () -> {
            LoveLocks x = new LoveLocks();
            x.month(0, 10, 10);
            x.month(1, 9, 9);
            for (int m = 0; m < 12; m++) {
                due(NONE, x.grown(m, 0));
                due(NONE, x.grown(m, 1));
            }
        });
    }

    // ---- 5 sought, stolen, images

    private static void sought() {
        holds("ask .. BAD: also no LOCK", () -> {
            due(BAD, locks(3).ask(0, 0));
            due(BAD, locks(3).ask(0, 1));
            due(BAD, new LoveLocks().ask(0, 0));
        });
        holds("ask .. BAD: one that is not there", () -> {
            LoveLocks x = locks(3);
            int[] off = {8, 9, 15, 16, 1 << 13, 1 << 14, 1 << 30, MAX, MIN, MIN | 1, -1};
            for (int set : off) {
                due(BAD, x.ask(set, 0));
                due(BAD, x.ask(set, 1));
            }
            due(10, x.ask(7, 0));
            due(BAD, locks(14).ask(1 << 14, 0));
            due(BAD, locks(14).ask(1 << 14 | 1, 1));
            due(BAD, locks(14).ask(-1, 0));
            due(BAD, locks(14).ask(MIN | 1, 0));
            due(BAD, new LoveLocks().ask(1, 0));
        });
        holds("ask .. BAD: .. is GONE", () -> {
            LoveLocks x = locks(3);
            x.cut(1);
            due(BAD, x.ask(2, 0));
            due(BAD, x.ask(7, 0));
            due(BAD, x.ask(3, 1));
            due(10, x.ask(5, 0));
        });
        holds("ask: THE BEST QUESTION (0), LOCKS left at worst (1), else BAD", () -> {
            int[] off = {-1, 2, MIN, MAX};
            for (int what : off) {
                due(BAD, locks(3).ask(1, what));
            }
        });
        holds("0 .. 5: is it on a PANEL of that number or a lower one", () -> {
            for (int q = 0; q < 5; q++) {
                LoveLocks x = panels(6);
                x.hang(q, 0, 1, 0, 0);
                x.hang(q + 1, 0, 1, 0, 0);
                due(q, x.ask(3, 0));
                due(1, x.ask(3, 1));
            }
            LoveLocks x = panels(6);
            x.hang(5, 0, 1, 0, 0);
            x.hang(5, 0, 1, 0, 0);
            due(0, x.ask(3, 0));
            due(2, x.ask(3, 1));
        });
        holds("10 .. 29: is its YEAR 0 .. 19 (10 less) or earlier", () -> {
            for (int y = 0; y < 19; y++) {
                LoveLocks x = panels(1);
                x.hang(0, 0, 1, 0, y + 1);
                x.hang(0, 0, 1, 0, y);
                due(10 + y, x.ask(3, 0));
                due(1, x.ask(3, 1));
            }
        });
        holds("30: is it BRASS", () -> {
            LoveLocks x = panels(1);
            x.hang(0, 0, 1, 0, 19);
            x.hang(0, 0, 1, 1, 19);
            due(30, x.ask(3, 0));
            due(1, x.ask(3, 1));
        });
        holds("31: does it hang on a BAR", () -> {
            LoveLocks x = panels(1);
            x.hang(0, 0, 1, 0, 19);
            x.hangOn(0, 1, 0, 19);
            due(31, x.ask(3, 0));
            due(1, x.ask(3, 1));
        });
        holds("the fewest LOCKS are left at worst, of like ones the first", () -> {
            LoveLocks x = panels(3);
            x.hang(0, 0, 1, 0, 0);
            x.hang(1, 0, 1, 0, 0);
            x.hang(2, 0, 1, 1, 5);
            x.hang(2, 0, 1, 1, 5);
            x.hangOn(0, 1, 1, 5);
            due(1, x.ask(15, 0));
            due(2, x.ask(15, 1));
            due(0, x.ask(7, 0));
            due(2, x.ask(7, 1));
            due(0, x.ask(16 + 12, 0));
            due(0, x.ask(1 + 4, 0));
            due(1, x.ask(2 + 4, 0));
            due(0, x.ask(31, 0));
            due(3, x.ask(31, 1));
            LoveLocks y = locks(14);
            due(16, y.ask((1 << 14) - 1, 0));
            due(7, y.ask((1 << 14) - 1, 1));
            due(11, y.ask(31, 0));
            due(3, y.ask(31, 1));
        });
        holds("one LOCK: the first QUESTION, one left, none NEEDED", () -> {
            LoveLocks x = locks(14);
            for (int l = 0; l < 14; l++) {
                due(0, x.ask(1 << l, 0));
                due(1, x.ask(1 << l, 1));
                due(0, x.needed(1 << l));
            }
        });
        holds("NEEDED: the fewest QUESTIONS by which at worst one is left", () -> {
            LoveLocks x = locks(14);
            int[] want = {0, 1, 2, 2, 3, 3, 3, 3, 4, 4, 4, 4, 4, 4};
            for (int n = 1; n <= 14; n++) {
                due(want[n - 1], x.needed((1 << n) - 1));
            }
            LoveLocks y = panels(2);
            y.hang(0, 0, 1, 0, 0);
            y.hang(0, 0, 1, 1, 0);
            y.hang(1, 0, 1, 0, 0);
            y.hang(1, 0, 1, 1, 0);
            due(2, y.needed(15));
        });
        holds("NEEDED: more, where each QUESTION (yes: all but one) parts but one LOCK", () -> {
            LoveLocks x = panels(2);
            x.hang(0, 0, 1, 0, 0);
            x.hang(0, 0, 1, 1, 0);
            x.hangOn(0, 1, 0, 0);
            x.hang(0, 0, 1, 0, 1);
            x.hang(1, 0, 1, 0, 0);
            due(1, x.needed(3));
            due(2, x.needed(7));
            due(3, x.needed(15));
            due(4, x.needed(31));
            due(0, x.ask(31, 0));
            due(4, x.ask(31, 1));
        });
        holds("NEEDED: more, where each QUESTION (no: all but one) parts but one LOCK", () -> {
            LoveLocks x = panels(2);
            x.hang(0, 0, 1, 0, 0);
            x.hang(1, 0, 1, 1, 1);
            x.hangOn(1, 1, 1, 1);
            x.hangOn(1, 1, 0, 1);
            x.hangOn(1, 1, 1, 0);
            x.hangOn(0, 1, 1, 1);
            due(1, x.needed(6));
            due(2, x.needed(14));
            due(3, x.needed(30));
            due(4, x.needed(62));
            due(0, x.ask(62, 0));
            due(4, x.ask(62, 1));
        });
        holds("ask, needed: by the LOCKS that are there now", () -> {
            LoveLocks x = panels(6);
            x.image();
            x.hang(0, 0, 1, 0, 0);
            x.hang(3, 0, 1, 0, 0);
            due(0, x.ask(3, 0));
            due(1, x.needed(3));
            x.restore();
            x.hang(5, 0, 1, 1, 7);
            x.hang(5, 0, 1, 1, 7);
            due(0, x.ask(3, 0));
            due(2, x.ask(3, 1));
            due(NONE, x.needed(3));
        });
        holds("NEEDED: not by THE BEST QUESTION each time", () -> {
            LoveLocks x = panels(4);
            x.hang(1, 0, 1, 1, 1);
            x.hangOn(0, 1, 1, 1);
            x.hang(1, 0, 1, 0, 1);
            x.hang(0, 0, 1, 0, 0);
            x.hang(3, 0, 1, 1, 0);
            x.hangOn(3, 1, 1, 1);
            // THE BEST ones would take four
            due(3, x.needed(63));
        });
        holds("needed .. BAD: also no LOCK", () -> {
            due(BAD, locks(3).needed(0));
            due(BAD, new LoveLocks().needed(0));
        });
        holds("needed .. BAD: one that is not there", () -> {
            int[] off = {8, 9, 15, 1 << 14, 1 << 30, MAX, MIN, MIN | 1, -1};
            for (int set : off) {
                due(BAD, locks(3).needed(set));
            }
            due(BAD, locks(14).needed(1 << 14));
            due(BAD, locks(14).needed(MIN | 1));
            due(4, locks(14).needed((1 << 14) - 1));
        });
        holds("needed .. BAD: .. is GONE", () -> {
            LoveLocks x = locks(3);
            x.cut(1);
            due(BAD, x.needed(2));
            due(BAD, x.needed(3));
            due(BAD, x.needed(7));
            due(1, x.needed(5));
        });
        holds("NONE: no QUESTIONS are enough", () -> {
            LoveLocks x = locks(3);
            x.hang(0, 2, 999, 0, 2);
            due(NONE, x.needed(4 + 8));
            due(NONE, x.needed(15));
            due(2, x.needed(7));
            due(2, x.needed(11));
            LoveLocks y = panels(1);
            for (int k = 0; k < 14; k++) {
                y.hang(0, 0, 1, 0, 0);
            }
            due(NONE, y.needed((1 << 14) - 1));
            due(NONE, y.needed(3));
        });
    }

    private static void stolen() {
        holds("some LOCKS .. were taken (at least one)", () -> {
            LoveLocks x = panels(1);
            x.hang(0, 0, 10, 0, 0);
            due(0, x.stolen(0, 0, 10, 0));
            due(NONE, x.stolen(0, 0, 10, 1));
            due(NONE, x.stolen(0, 0, 10, 2));
            due(1, x.stolen(0, 0, 0, 0));
            due(0, x.stolen(0, 1, 0, 0));
            due(NONE, x.stolen(0, 1, 0, 2));
        });
        holds("LOCKS of BRASS", () -> {
            LoveLocks x = panels(1);
            x.hang(0, 0, 10, 1, 0);
            x.hang(0, 0, 10, 0, 0);
            due(1, x.stolen(0, 0, 10, 0));
            due(2, x.stolen(0, 0, 10, 1));
            due(2, x.stolen(0, 0, 10, 2));
            due(0, x.stolen(0, 0, 0, 0));
        });
        holds("(on it, on those, and so on)", () -> {
            LoveLocks x = panels(1);
            x.hang(0, 0, 100, 1, 0);
            x.hangOn(0, 50, 1, 0);
            x.hangOn(1, 3, 0, 0);
            due(1, x.stolen(0, 0, 150, 0));
            due(4, x.stolen(0, 0, 150, 1));
            due(0, x.stolen(0, 0, 100, 0));
            due(0, x.stolen(0, 0, 0, 0));
        });
        holds("and what hung on them, and so on, went, too", () -> {
            LoveLocks x = panels(1);
            x.hang(0, 0, 100, 0, 0);
            x.hangOn(0, 50, 1, 0);
            x.hangOn(1, 3, 0, 0);
            due(1, x.stolen(0, 0, 0, 0));
            due(7, x.stolen(0, 0, 0, 1));
            due(0, x.stolen(0, 0, 53, 0));
            due(0, x.stolen(0, 0, 50, 0));
            due(1, x.stolen(0, 0, 150, 0));
            LoveLocks y = panels(1);
            y.hang(0, 0, 1, 1, 0);
            y.hang(0, 0, 10, 0, 0);
            y.hangOn(0, 2, 1, 0);
            y.hangOn(1, 20, 1, 0);
            y.hangOn(3, 40, 1, 0);
            due(1, y.stolen(0, 0, 3, 0));
            due(2 + 8 + 16, y.stolen(0, 0, 3, 1));
            due(0, y.stolen(0, 0, 63, 0));
        });
        holds("LOOTS are sets of all LOCKS that went (a set counts once)", () -> {
            LoveLocks x = panels(1);
            x.hang(0, 0, 100, 0, 0);
            x.hangOn(0, 50, 0, 0);
            x.hangOn(1, 3, 0, 0);
            due(1, x.stolen(0, 0, 0, 0));
            due(1, x.stolen(0, 0, 100, 0));
            due(6, x.stolen(0, 0, 100, 1));
        });
        holds("LOCKS in all of them (1), in some (2)", () -> {
            LoveLocks x = panels(1);
            x.hang(0, 0, 5, 0, 0);
            x.hang(0, 0, 5, 0, 0);
            x.hang(0, 0, 7, 0, 0);
            due(2, x.stolen(0, 0, 5, 0));
            due(4, x.stolen(0, 0, 5, 1));
            due(7, x.stolen(0, 0, 5, 2));
            due(0, x.stolen(0, 0, 12, 1));
            due(3, x.stolen(0, 0, 12, 2));
            int[] off = {-1, 3, MIN, MAX};
            for (int what : off) {
                due(BAD, x.stolen(0, 0, 5, what));
            }
        });
        holds("the LOAD 0 .. 99999 since", () -> {
            LoveLocks x = panels(1);
            x.hang(0, 0, 5, 0, 0);
            int[] off = {-1, 100000, MIN, MAX};
            for (int load : off) {
                due(BAD, x.stolen(0, 0, load, 0));
            }
            due(1, x.stolen(0, 0, 0, 0));
            due(0, x.stolen(0, 0, 99999, 0));
            due(NONE, x.stolen(0, 0, 99999, 1));
            due(0, x.stolen(0, 0, 6, 0));
        });
        holds("stolen takes nothing, and none of the GONE ones", () -> {
            LoveLocks x = panels(1);
            x.hang(0, 0, 5, 0, 0);
            x.hang(0, 0, 5, 0, 0);
            x.cut(0);
            due(1, x.stolen(0, 0, 0, 0));
            due(2, x.stolen(0, 0, 0, 2));
            due(5, x.load(0, 0));
            due(1, x.count(2));
        });
        holds("14 LOCKS of BRASS: all sets of them", () -> {
            LoveLocks x = locks(14);
            due(3432, x.stolen(0, 0, 7, 0));
            due(0, x.stolen(0, 0, 7, 1));
            due((1 << 14) - 1, x.stolen(0, 0, 7, 2));
            due(1, x.stolen(0, 0, 0, 0));
            due(14, x.stolen(0, 0, 13, 0));
        });
    }

    private static void images() {
        holds("NONE: there is none", () -> {
            LoveLocks x = locks(3);
            due(NONE, x.restore());
            due(3, x.count(1));
            x.image();
            due(1, x.restore());
            due(1, x.restore());
        });
        holds("an IMAGE of a new object", () -> {
            LoveLocks x = new LoveLocks();
            due(1, x.image());
            x.panel(1, 1, 1);
            x.month(0, 5, 5);
            person(x, "A");
            due(1, x.restore());
            due(0, x.count(0));
            due(0, x.count(4));
            due(9999, x.grown(0, 1));
        });
        holds("All but SHEETS, THE TAPE is kept", () -> {
            LoveLocks x = locks(1);
            fill(x, 0, 0, 1, 2);
            tape(x, "A+B");
            x.image();
            x.sheet(0, 2, 5);
            x.sheet(1, 2, 6);
            tape(x, "C");
            x.restore();
            due(5, x.drop(0));
            due(6, x.drop(1));
            due(3, x.letters(0));
        });
        holds("All is as it was then: the last IMAGE, each time", () -> {
            LoveLocks x = new LoveLocks();
            x.image();
            x.panel(1, 1, 1);
            x.image();
            x.panel(1, 1, 1);
            due(1, x.restore());
            due(1, x.count(0));
            x.panel(1, 1, 1);
            x.panel(1, 1, 1);
            due(1, x.restore());
            due(1, x.count(0));
        });
        holds("All is as it was then: LIMITS, LOCKS, SIGHTS, NAMES, LETTERS, CUTS, COUNTS", () -> {
            LoveLocks x = new LoveLocks();
            x.panel(30, 40, 50);
            x.hang(0, 1, 10, 1, 7);
            x.photo(0, 5, 5);
            person(x, "A");
            person(x, "B");
            letters(x, 0, "A+B");
            x.nightly(3);
            x.risk(0, 0, 9);
            x.risk(0, 1, 8);
            x.risk(0, 2, 4);
            x.month(0, 3, 4);
            x.month(11, 3, 3);
            x.image();
            x.panel(1, 1, 1);
            x.cut(0);
            x.hang(1, 2, 2, 0, 1);
            x.photo(0, 6, 0);
            x.photo(1, 6, 0);
            person(x, "C");
            letters(x, 0, "C+A");
            letters(x, 1, "A+C");
            x.nightly(1);
            x.risk(0, 0, 1);
            x.risk(0, 1, 1);
            x.risk(0, 2, 1);
            x.risk(1, 0, 5);
            x.risk(1, 1, 5);
            x.risk(1, 2, 5);
            x.month(0, 1, 1);
            x.month(5, 1, 1);
            x.month(11, 1, 1);
            due(1, x.restore());
            int[] counts = {1, 1, 0, 1, 2, 1};
            for (int what = 0; what < 6; what++) {
                due(counts[what], x.count(what));
            }
            int[] lock = {10, 1, 7, 0, 1, NONE, 0, 0};
            for (int what = 0; what < 8; what++) {
                due(lock[what], x.told(0, what));
            }
            due(5, x.span(0, 0));
            due(10, x.span(0, 1));
            due(3, x.who(0, 1));
            due(3, x.grown(0, 0));
            due(3, x.grown(0, 1));
            due(21, x.laws(0));
            due(4, x.order(0));
            due(9 + 17 + 25 + 33, x.order(-1));
            due(3, x.nightly(3));
            due(1, x.safe(0, 4));
            due(0, x.safe(0, 5));
            x.hang(0, 1, 20, 0, 0);
            due(200, x.over());
            x.hang(0, 1, 1, 0, 0);
            due(101, x.over());
            due(1, x.panel(99999, 99999, 99999));
            due(0, x.span(1, 0));
            due(99999, x.span(1, 1));
            for (int what = 0; what < 3; what++) {
                due(0, x.risk(1, what, 0));
            }
        });
    }

    // ---- 6 sheets

    private static void sheets() {
        holds("sheets 0 .. 3: nothing (at first)", () -> {
            LoveLocks x = new LoveLocks();
            for (int s = 0; s < 4; s++) {
                due(NULL, x.drop(s));
                due(NULL, x.item(s, 0, 0, 1));
                due(NULL, x.months(s, 2, 0, 1));
                due(NULL, x.copy(s, 0, s, 0, 0));
            }
            int[] off = {-1, 4, MIN, MAX};
            for (int s : off) {
                due(BAD, x.drop(s));
                due(BAD, x.sheet(s, 0, 1));
                due(BAD, x.item(s, 0, 0, 1));
                due(BAD, x.months(s, 0, 0, 1));
                due(BAD, x.copy(s, 0, 0, 0, 1));
                due(BAD, x.copy(0, 0, s, 0, 1));
            }
        });
        holds("a LANE: 0 bytes, 1 shorts, 2 ints", () -> {
            LoveLocks x = new LoveLocks();
            int[] off = {-1, 3, MIN, MAX};
            for (int lane = 0; lane < 3; lane++) {
                due(2, x.sheet(lane, lane, 2));
                due(1, x.item(lane, lane, 1, 5));
                due(1, x.months(lane, lane, 0, 1));
                for (int l : off) {
                    due(BAD, x.sheet(lane, l, 2));
                    due(BAD, x.item(lane, l, 0, 5));
                    due(BAD, x.months(lane, l, 0, 1));
                }
            }
        });
        holds("of 0 to 24 items; BAD: also n above 24", () -> {
            LoveLocks x = new LoveLocks();
            for (int n = 0; n <= 24; n++) {
                due(n, x.sheet(1, n % 3, n));
                due(n == 0 ? INDEX : 1, x.item(1, n % 3, n - 1, 1));
                due(INDEX, x.item(1, n % 3, n, 1));
            }
            due(BAD, x.sheet(1, 0, 25));
            due(BAD, x.sheet(1, 0, MAX));
            due(24, x.drop(1));
        });
        holds("SIZE: n below 0", () -> {
            LoveLocks x = new LoveLocks();
            due(SIZE, x.sheet(0, 0, -1));
            due(SIZE, x.sheet(3, 2, MIN));
            due(NULL, x.drop(0));
            x.sheet(0, 1, 3);
            due(SIZE, x.sheet(0, 0, -1));
            due(1, x.item(0, 1, 2, 1));
            due(3, x.drop(0));
        });
        holds("A SHEET holds a new row", () -> {
            LoveLocks x = new LoveLocks();
            fill(x, 0, 2, 5, 6, 7, 8);
            due(4, x.sheet(0, 2, 4));
            dueItems(x, 0, 2, 0, 0, 0);
            dueItems(x, 0, 2, 2, 0, 0);
            due(2, x.sheet(0, 1, 2));
            due(CAST, x.item(0, 2, 0, 1));
            due(INDEX, x.item(0, 1, 2, 1));
        });
        holds("drop: how many items it had; NULL", () -> {
            LoveLocks x = new LoveLocks();
            x.sheet(0, 0, 0);
            x.sheet(1, 0, 24);
            due(0, x.drop(0));
            due(NULL, x.drop(0));
            due(24, x.drop(1));
            due(NULL, x.drop(1));
            due(NULL, x.item(1, 0, 0, 0));
            due(5, x.sheet(1, 0, 5));
            due(5, x.drop(1));
        });
        holds("item .. INDEX", () -> {
            LoveLocks x = new LoveLocks();
            x.sheet(0, 0, 3);
            x.sheet(1, 0, 0);
            x.sheet(2, 2, 24);
            int[] off = {-1, 3, 24, MIN, MAX};
            for (int i : off) {
                due(INDEX, x.item(0, 0, i, 1));
            }
            due(1, x.item(0, 0, 0, 1));
            due(1, x.item(0, 0, 2, 1));
            due(INDEX, x.item(1, 0, 0, 1));
            due(1, x.item(2, 2, 23, 1));
            due(INDEX, x.item(2, 2, 24, 1));
        });
        holds("v, its lowest bits (all with a sign): bytes", () -> dueBits(0, 256));
        holds("v, its lowest bits (all with a sign): shorts", () -> dueBits(1, 65536));
        holds("v, its lowest bits: ints keep all", () -> {
            LoveLocks x = new LoveLocks();
            fill(x, 0, 2, 0, 65536 + 5, 0, 256, -65536 + 1, 9999, 5, MAX);
            due(NOT, x.months(0, 2, 0, 1));
            dueItems(x, 0, 2, 2, 0, 256);
            due(NOT, x.months(0, 2, 4, 1));
            due(NOT, x.months(0, 2, 6, 1));
        });
        holds("copy: as if all were taken ahead (forward)", () -> {
            LoveLocks x = new LoveLocks();
            fill(x, 0, 2, 10, 20, 30, 40, 50, 60);
            due(4, x.copy(0, 0, 0, 1, 4));
            // 10 10 20 30 40 60
            dueItems(x, 0, 2, 0, 10, 10);
            dueItems(x, 0, 2, 2, 20, 30);
            dueItems(x, 0, 2, 4, 40, 60);
        });
        holds("copy: as if all were taken ahead (backward)", () -> {
            LoveLocks x = new LoveLocks();
            fill(x, 0, 2, 10, 20, 30, 40, 50, 60);
            due(4, x.copy(0, 1, 0, 0, 4));
            // 20 30 40 50 50 60
            dueItems(x, 0, 2, 0, 20, 30);
            dueItems(x, 0, 2, 2, 40, 50);
            dueItems(x, 0, 2, 4, 50, 60);
        });
        holds("copy: from a SHEET to another one", () -> {
            for (int lane = 0; lane < 3; lane++) {
                LoveLocks x = new LoveLocks();
                fill(x, 3, lane, 10, 20, 30, 40);
                fill(x, 1, lane, 1, 2, 3, 4, 5, 60);
                due(3, x.copy(3, 1, 1, 2, 3));
                dueItems(x, 1, lane, 0, 1, 2);
                dueItems(x, 1, lane, 2, 20, 30);
                dueItems(x, 1, lane, 4, 40, 60);
                dueItems(x, 3, lane, 0, 10, 20);
                dueItems(x, 3, lane, 2, 30, 40);
            }
        });
        holds("INDEX also where no item is taken, if i, j is below 0, or above how many there are", () -> {
            LoveLocks x = new LoveLocks();
            x.sheet(0, 1, 3);
            x.sheet(1, 1, 5);
            x.sheet(2, 1, 0);
            due(0, x.copy(0, 0, 1, 0, 0));
            due(0, x.copy(0, 3, 1, 5, 0));
            due(0, x.copy(2, 0, 2, 0, 0));
            int[] off = {-1, 4, MIN, MAX};
            for (int i : off) {
                due(INDEX, x.copy(0, i, 1, 0, 0));
                due(INDEX, x.copy(1, 0, 0, i, 0));
                due(INDEX, x.copy(0, i, 0, 0, 0));
                due(INDEX, x.copy(0, 0, 0, i, 0));
            }
            due(0, x.copy(1, 4, 0, 3, 0));
            due(INDEX, x.copy(1, 6, 0, 0, 0));
            due(INDEX, x.copy(0, 0, 1, 6, 0));
            due(INDEX, x.copy(2, 1, 0, 0, 0));
            due(INDEX, x.copy(0, 0, 2, 1, 0));
        });
        holds("copy .. INDEX (n below 0, too)", () -> {
            LoveLocks x = new LoveLocks();
            x.sheet(0, 1, 3);
            x.sheet(1, 1, 5);
            due(INDEX, x.copy(0, 0, 1, 0, -1));
            due(INDEX, x.copy(0, 2, 1, 2, -1));
            due(INDEX, x.copy(0, 0, 1, 0, MIN));
            due(INDEX, x.copy(0, 3, 1, 5, MIN));
            due(INDEX, x.copy(0, MAX, 1, MAX, MIN));
            due(INDEX, x.copy(0, 1, 0, 1, -1));
        });
        holds("copy .. INDEX: n items that are not there", () -> {
            LoveLocks x = new LoveLocks();
            x.sheet(0, 1, 3);
            x.sheet(1, 1, 5);
            due(3, x.copy(0, 0, 1, 2, 3));
            due(INDEX, x.copy(0, 0, 1, 3, 3));
            due(INDEX, x.copy(0, 1, 1, 0, 3));
            due(INDEX, x.copy(1, 0, 0, 0, 4));
            due(INDEX, x.copy(0, 0, 1, 0, 4));
            due(1, x.copy(0, 2, 1, 4, 1));
            due(INDEX, x.copy(0, 3, 1, 4, 1));
            due(INDEX, x.copy(0, 2, 1, 5, 1));
            due(INDEX, x.copy(0, 1, 1, 1, MAX));
            due(INDEX, x.copy(0, MAX, 1, 0, MAX));
        });
        holds("copy .. NULL (either)", () -> {
            LoveLocks x = new LoveLocks();
            x.sheet(2, 1, 3);
            due(NULL, x.copy(2, 0, 3, 0, 1));
            due(NULL, x.copy(3, 0, 2, 0, 1));
            due(NULL, x.copy(3, 0, 3, 0, 1));
            due(NULL, x.copy(0, 0, 3, 0, 0));
        });
        holds("CAST: of unlike LANES", () -> {
            LoveLocks x = new LoveLocks();
            for (int lane = 0; lane < 3; lane++) {
                x.sheet(lane, lane, 3);
            }
            for (int a = 0; a < 3; a++) {
                for (int b = 0; b < 3; b++) {
                    due(a == b ? 1 : CAST, x.copy(a, 0, b, 0, 1));
                    due(a == b ? 1 : CAST, x.item(a, b, 0, 0));
                    due(a == b ? 1 : CAST, x.months(a, b, 0, 1));
                }
            }
        });
        holds("months: n MONTHS (1 .. 12) from MONTH 0 on", () -> {
            int[] off = {0, -1, 13, MIN, MAX};
            for (int n : off) {
                LoveLocks x = new LoveLocks();
                x.sheet(0, 2, 24);
                due(BAD, x.months(0, 2, 0, n));
                due(210, x.laws(0));
            }
            for (int n = 1; n <= 12; n++) {
                LoveLocks x = new LoveLocks();
                x.sheet(0, 1, 24);
                // behind the n MONTHS stands a COUNT to which no LAW leads
                for (int k = 0; k < 2 * n; k++) {
                    x.item(0, 1, k, 10 + k / 2);
                }
                due(n, x.months(0, 1, 0, n));
                due(0, x.laws(1));
                due(n == 1 ? 0 : 1, x.laws(2));
                for (int m = 0; m < n; m++) {
                    due(10 + m, x.grown(m, 0));
                    due(10 + m, x.grown(m, 1));
                }
            }
        });
        holds("months: those behind stay as they were", () -> {
            LoveLocks x = new LoveLocks();
            x.month(2, 52, 52);
            fill(x, 0, 2, 50, 50, 51, 51);
            due(2, x.months(0, 2, 0, 2));
            due(52, x.grown(2, 0));
            due(52, x.grown(2, 1));
        });
        holds("a least and a most each, .. from item i on", () -> {
            LoveLocks x = new LoveLocks();
            fill(x, 0, 2, 9, 100, 110, 120, 130, 1);
            due(2, x.months(0, 2, 1, 2));
            due(100, x.grown(0, 0));
            due(110, x.grown(0, 1));
            due(120, x.grown(1, 0));
            due(130, x.grown(1, 1));
            due(1, x.months(0, 2, 0, 1));
            due(100, x.grown(0, 1));
        });
        holds("months .. INDEX", () -> {
            LoveLocks x = new LoveLocks();
            x.sheet(0, 2, 5);
            int[] off = {-1, 4, 5, 6, MIN, MAX, MAX - 1};
            for (int i : off) {
                due(INDEX, x.months(0, 2, i, 1));
            }
            due(1, x.months(0, 2, 3, 1));
            due(2, x.months(0, 2, 1, 2));
            due(INDEX, x.months(0, 2, 2, 2));
            due(INDEX, x.months(0, 2, 0, 3));
            due(INDEX, x.months(0, 2, 0, 12));
            x.sheet(1, 2, 0);
            due(INDEX, x.months(1, 2, 0, 1));
            x.sheet(2, 2, 24);
            due(12, x.months(2, 2, 0, 12));
            due(INDEX, x.months(2, 2, 1, 12));
        });
        holds("months .. NOT: one is not as told", () -> {
            int[][] rows = {{5, 4}, {-1, 5}, {-1, -1}, {0, 10000}, {10000, 10000}, {1, 0}};
            for (int[] r : rows) {
                LoveLocks x = new LoveLocks();
                fill(x, 0, 2, 7, 8, r[0], r[1], 9, 10);
                due(NOT, x.months(0, 2, 0, 3));
                due(NOT, x.months(0, 2, 2, 1));
                due(NOT, x.months(0, 2, 2, 2));
                due(NOT, x.months(0, 2, 0, 2));
                due(210, x.laws(0));
                due(9999, x.grown(0, 1));
                due(1, x.months(0, 2, 4, 1));
            }
            LoveLocks x = new LoveLocks();
            fill(x, 0, 2, 0, 9999, 5, 5, 9999, 9999, 0, 0);
            due(4, x.months(0, 2, 0, 4));
        });
    }

    private static void dueBits(int lane, int all) {
        LoveLocks x = new LoveLocks();
        fill(x, 0, lane, all + 5, -all + 6, 0, all / 2 - 1, 0, all / 2, 0, -1, 0, 3 * all);
        dueItems(x, 0, lane, 0, 5, 6);
        if (lane == 0) {
            dueItems(x, 0, lane, 2, 0, 127);
        } else {
            due(NOT, x.months(0, lane, 2, 1));
        }
        due(NOT, x.months(0, lane, 4, 1));
        due(NOT, x.months(0, lane, 6, 1));
        dueItems(x, 0, lane, 8, 0, 0);
    }
}
