/** Promise by promise: ordinary inputs, the edges that the document names, and wrong inputs. */
public final class PromiseTests {
    private static final int BAD = -1, NOT = -2, FULL = -3, NONE = -4, NULL = -11, CAST = -12, INDEX = -13, SIZE = -14;
    private static final int MIN = Integer.MIN_VALUE, MAX = Integer.MAX_VALUE;
    private static int promise;
    private static int row;
    private static int wrong;

    private static void start(int p) {
        promise = p;
        row = 0;
    }

    private static void due(long want, long got) {
        row++;
        if (want != got) {
            wrong++;
            System.out.println("promise " + promise + ", check " + row + ": answered " + got + ", due is " + want);
        }
    }

    private static int tape(LoveLocks x, String text) {
        int n = 0;
        for (int k = 0; k < text.length(); k++) {
            n = x.type(text.charAt(k), 1);
        }
        return n;
    }

    private static int person(LoveLocks x, String text) {
        tape(x, text);
        return x.person();
    }

    private static int letters(LoveLocks x, int lock, String text) {
        tape(x, text);
        return x.letters(lock);
    }

    private static LoveLocks withPanels(int n) {
        LoveLocks x = new LoveLocks();
        for (int k = 0; k < n; k++) {
            x.panel(99999, 99999, 99999);
        }
        return x;
    }

    private static LoveLocks withLocks(int n) {
        LoveLocks x = withPanels(1);
        for (int k = 0; k < n; k++) {
            x.hang(0, 0, 1, 0, k);
        }
        return x;
    }

    public static void main(String[] args) {
        theConstants();
        aNewObject();
        panel();
        hang();
        hangOn();
        told();
        load();
        on();
        cut();
        over();
        giveWay();
        count();
        photo();
        truck();
        span();
        safe();
        type();
        personName();
        lettersOfLock();
        readings();
        ways();
        who();
        where();
        nightly();
        risk();
        order();
        orderOfLikeOnes();
        month();
        laws();
        grown();
        ask();
        needed();
        stolen();
        image();
        restore();
        months();
        sheet();
        drop();
        item();
        copy();
        System.out.println(wrong == 0 ? "all promises hold" : wrong + " answers are wrong");
        if (wrong != 0) {
            System.exit(1);
        }
    }

    private static void theConstants() {
        start(0);
        due(BAD, LoveLocks.BAD);
        due(NOT, LoveLocks.NOT);
        due(FULL, LoveLocks.FULL);
        due(NONE, LoveLocks.NONE);
        due(NULL, LoveLocks.NULL);
        due(CAST, LoveLocks.CAST);
        due(INDEX, LoveLocks.INDEX);
        due(SIZE, LoveLocks.SIZE);
    }

    private static void aNewObject() {
        start(1);
        LoveLocks x = new LoveLocks();
        for (int what = 0; what < 6; what++) {
            due(0, x.count(what));
        }
        due(BAD, x.load(0, 0));
        due(NOT, x.order(-1));
        due(NONE, x.over());
        due(NONE, x.restore());
        due(2, x.nightly(2));
        due(NULL, x.drop(0));
        due(NULL, x.drop(3));
        due(1, x.type(65, 1));
        due(0, withPanels(1).risk(0, 0, 0));
        due(0, withPanels(1).risk(0, 1, 0));
        due(0, withPanels(1).risk(0, 2, 0));
    }

    private static void panel() {
        start(2);
        LoveLocks x = new LoveLocks();
        due(BAD, x.panel(0, 1, 1));
        due(BAD, x.panel(1, 0, 1));
        due(BAD, x.panel(1, 1, 0));
        due(BAD, x.panel(100000, 1, 1));
        due(BAD, x.panel(1, 100000, 1));
        due(BAD, x.panel(1, 1, 100000));
        due(BAD, x.panel(MIN, MAX, 1));
        due(0, x.count(0));
        for (int k = 0; k < 6; k++) {
            due(k, x.panel(k == 0 ? 1 : 99999, k == 0 ? 1 : 99999, k == 0 ? 1 : 99999));
        }
        due(FULL, x.panel(1, 1, 1));
        due(BAD, x.panel(0, 1, 1));
        due(6, x.count(0));
    }

    private static void hang() {
        start(3);
        LoveLocks x = withPanels(2);
        due(BAD, x.hang(2, 0, 1, 0, 0));
        due(BAD, x.hang(-1, 0, 1, 0, 0));
        due(BAD, x.hang(MAX, 0, 1, 0, 0));
        due(BAD, x.hang(0, -1, 1, 0, 0));
        due(BAD, x.hang(0, 3, 1, 0, 0));
        due(BAD, x.hang(0, 0, 0, 0, 0));
        due(BAD, x.hang(0, 0, 1000, 0, 0));
        due(BAD, x.hang(0, 0, 1, -1, 0));
        due(BAD, x.hang(0, 0, 1, 2, 0));
        due(BAD, x.hang(0, 0, 1, 0, -1));
        due(BAD, x.hang(0, 0, 1, 0, 20));
        due(0, x.count(1));
        due(0, x.hang(1, 2, 999, 1, 19));
        for (int k = 1; k < 14; k++) {
            due(k, x.hang(0, 0, 1, 0, 0));
        }
        due(FULL, x.hang(0, 0, 1, 0, 0));
        due(BAD, x.hang(0, 0, 0, 0, 0));
        due(1, x.cut(13));
        due(FULL, x.hang(0, 0, 1, 0, 0));
        due(14, x.count(1));
    }

    private static void hangOn() {
        start(4);
        LoveLocks x = withLocks(1);
        due(BAD, x.hangOn(1, 1, 0, 0));
        due(BAD, x.hangOn(-1, 1, 0, 0));
        due(BAD, x.hangOn(MIN, 1, 0, 0));
        due(BAD, x.hangOn(0, 0, 0, 0));
        due(BAD, x.hangOn(0, 1000, 0, 0));
        due(BAD, x.hangOn(0, 1, 2, 0));
        due(BAD, x.hangOn(0, 1, 0, 20));
        due(1, x.hangOn(0, 7, 1, 3));
        due(2, x.hangOn(1, 8, 0, 4));
        due(15, x.told(0, 6));
        due(0, x.told(2, 3));
        due(0, x.told(2, 4));
        due(1, x.told(2, 5));
        due(1, x.cut(2));
        due(NOT, x.hangOn(2, 1, 0, 0));
        due(BAD, x.hangOn(2, 0, 0, 0));
        for (int k = 3; k < 14; k++) {
            due(k, x.hangOn(k == 3 ? 1 : k - 1, 1, 1, 0));
        }
        due(FULL, x.hangOn(0, 1, 0, 0));
        due(NOT, x.hangOn(2, 1, 0, 0));
        due(BAD, x.hangOn(14, 1, 0, 0));
    }

    private static void told() {
        start(5);
        LoveLocks x = withPanels(3);
        x.hang(2, 1, 11, 1, 17);
        x.hangOn(0, 12, 0, 18);
        x.hangOn(1, 13, 0, 19);
        x.hangOn(0, 14, 0, 0);
        int[] first = {11, 1, 17, 2, 1, NONE, 39, 0, BAD};
        int[] second = {12, 0, 18, 2, 1, 0, 13, 0, BAD};
        for (int what = 0; what < 9; what++) {
            due(first[what], x.told(0, what));
            due(second[what], x.told(1, what));
        }
        due(BAD, x.told(0, -1));
        due(BAD, x.told(4, 0));
        due(BAD, x.told(-1, 0));
        due(2, x.cut(1));
        int[] gone = {12, 0, 18, 2, 1, 0, 0, 1, BAD};
        for (int what = 0; what < 9; what++) {
            due(gone[what], x.told(1, what));
        }
        due(1, x.told(2, 5));
        due(14, x.told(0, 6));
    }

    private static void load() {
        start(6);
        LoveLocks x = withPanels(2);
        x.hang(1, 0, 100, 0, 0);
        x.hang(1, 1, 20, 0, 0);
        x.hangOn(1, 3, 0, 0);
        x.hangOn(2, 4, 0, 0);
        x.hang(1, 2, 500, 0, 0);
        due(100, x.load(1, 0));
        due(27, x.load(1, 1));
        due(500, x.load(1, 2));
        due(627, x.load(1, 3));
        due(654, x.load(1, 4));
        for (int what = 0; what < 5; what++) {
            due(0, x.load(0, what));
        }
        due(BAD, x.load(1, 5));
        due(BAD, x.load(1, -1));
        due(BAD, x.load(2, 0));
        due(BAD, x.load(-1, 0));
        x.cut(2);
        due(20, x.load(1, 1));
        due(640, x.load(1, 4));
    }

    private static void on() {
        start(7);
        LoveLocks x = withPanels(2);
        x.hang(1, 0, 1, 0, 0);
        x.hangOn(0, 1, 0, 0);
        x.hang(1, 1, 1, 0, 0);
        x.hangOn(1, 1, 0, 0);
        x.hang(0, 0, 1, 0, 0);
        due(11, x.on(1, 0));
        due(4, x.on(1, 1));
        due(0, x.on(1, 2));
        due(16, x.on(0, 0));
        due(BAD, x.on(1, 3));
        due(BAD, x.on(1, -1));
        due(BAD, x.on(2, 0));
        due(BAD, x.on(-1, 0));
        x.cut(1);
        due(1, x.on(1, 0));
    }

    private static void cut() {
        start(8);
        LoveLocks x = withPanels(1);
        x.hang(0, 0, 1, 0, 0);
        x.hangOn(0, 1, 0, 0);
        x.hangOn(1, 1, 0, 0);
        x.hangOn(0, 1, 0, 0);
        x.hang(0, 0, 1, 0, 0);
        due(BAD, x.cut(5));
        due(BAD, x.cut(-1));
        due(1, x.cut(2));
        due(NOT, x.cut(2));
        due(3, x.cut(0));
        due(NOT, x.cut(1));
        due(NOT, x.cut(3));
        due(4, x.count(2));
        due(16, x.on(0, 0));
    }

    private static void over() {
        start(9);
        LoveLocks x = new LoveLocks();
        x.panel(60, 100, 150);
        x.panel(61, 100, 150);
        x.hang(1, 2, 10, 0, 0);
        x.hangOn(0, 50, 0, 0);
        due(NONE, x.over());
        x.hangOn(1, 1, 0, 0);
        due(0, x.over());
        x.cut(0);
        x.hang(1, 1, 6, 1, 0);
        x.hangOn(3, 54, 0, 0);
        due(NONE, x.over());
        x.hangOn(4, 1, 0, 0);
        due(3, x.over());
        x.cut(3);
        x.hang(1, 0, 61, 0, 0);
        due(NONE, x.over());
        x.hang(1, 2, 62, 0, 0);
        due(112, x.over());
        x.hang(0, 1, 61, 0, 0);
        due(101, x.over());
        x.cut(8);
        x.cut(7);
        x.hang(1, 2, 39, 0, 0);
        due(NONE, x.over());
        x.hang(1, 2, 1, 0, 0);
        due(201, x.over());
        LoveLocks y = new LoveLocks();
        y.panel(100, 200, 150);
        y.hang(0, 1, 75, 0, 0);
        due(NONE, y.over());
        y.hang(0, 0, 1, 0, 0);
        due(200, y.over());
    }

    private static void giveWay() {
        start(10);
        LoveLocks x = new LoveLocks();
        due(0, x.giveWay());
        x.panel(100, 150, 999);
        x.hang(0, 0, 90, 0, 0);
        x.hang(0, 1, 90, 0, 0);
        x.hang(0, 1, 5, 0, 0);
        x.hangOn(2, 20, 0, 0);
        x.hangOn(2, 6, 0, 0);
        // lock 2 falls with two; then bar 1 holds, but not the panel: it falls, all of it
        due(1, x.cut(4));
        due(101, x.over());
        x.hangOn(2, 6, 0, 0);
        due(2, x.over());
        due(5, x.giveWay());
        due(6, x.count(2));
        due(NONE, x.over());
        LoveLocks y = new LoveLocks();
        y.panel(50, 100, 100);
        y.panel(50, 100, 100);
        y.hang(0, 2, 51, 0, 0);
        y.hang(0, 0, 51, 0, 0);
        y.hang(0, 1, 50, 0, 0);
        y.hang(1, 1, 50, 0, 0);
        y.hang(1, 0, 1, 0, 0);
        // bars 0 and 2 of panel 0 fall, its bar 1 stays (its sag is 100); panel 1 sags 101
        due(4, y.giveWay());
        due(4, y.on(0, 1));
        due(0, y.on(1, 1));
        due(0, y.giveWay());
        // one fall behind the other, bar by bar
        LoveLocks z = new LoveLocks();
        for (int p = 0; p < 6; p++) {
            z.panel(1, 99999, 99999);
        }
        for (int k = 17; k >= 4; k--) {
            z.hang(k / 3, k % 3, 2, 0, 0);
        }
        due(111, z.over());
        due(14, z.giveWay());
        due(NONE, z.over());
        for (int b = 0; b < 3; b++) {
            LoveLocks u = withPanels(5);
            u.panel(9, 19, 99);
            u.hang(4, b, 1, 0, 0);
            u.hang(5, b, 10, 0, 0);
            u.hang(5, (b + 1) % 3, 9, 0, 0);
            due(150 + b, u.over());
            due(1, u.giveWay());
            due(9, u.load(5, 3));
            due(1, u.load(4, 3));
            LoveLocks v = withPanels(3);
            v.panel(9, 9, 99);
            v.hang(2, b, 5, 0, 0);
            v.hang(3, b, 5, 0, 0);
            v.hang(3, (b + 1) % 3, 5, 0, 0);
            due(203, v.over());
            due(2, v.giveWay());
            due(5, v.load(2, b));
        }
    }

    private static void count() {
        start(11);
        LoveLocks x = withPanels(3);
        x.hang(0, 0, 1, 0, 0);
        x.hang(0, 0, 1, 0, 0);
        x.cut(1);
        x.photo(2, 5, 5);
        x.photo(2, 5, 5);
        x.truck(1, 5, 5, 5, 5);
        person(x, "ANNA");
        letters(x, 1, "A+B");
        letters(x, 1, "B+A");
        int[] want = {3, 2, 1, 3, 1, 1, BAD};
        for (int what = 0; what < 7; what++) {
            due(want[what], x.count(what));
        }
        due(BAD, x.count(-1));
        due(BAD, x.count(MAX));
    }

    private static void photo() {
        start(12);
        LoveLocks x = withPanels(1);
        due(BAD, x.photo(1, 0, 0));
        due(BAD, x.photo(-1, 0, 0));
        due(BAD, x.photo(0, -1, 0));
        due(BAD, x.photo(0, 1000, 0));
        due(BAD, x.photo(0, 0, -1));
        due(BAD, x.photo(0, 0, 1000));
        due(1, x.photo(0, 999, 999));
        due(999, x.span(0, 0));
        due(1998, x.span(0, 1));
        due(2, x.photo(0, 0, 999));
        due(999, x.span(0, 1));
        for (int k = 3; k < 13; k++) {
            due(k, x.photo(0, 999, 0));
        }
        due(FULL, x.photo(0, 0, 0));
        due(BAD, x.photo(0, 0, 1000));
        due(999, x.span(0, 1));
        due(12, x.count(3));
    }

    private static void truck() {
        start(13);
        LoveLocks x = withPanels(6);
        due(BAD, x.truck(6, 0, 0, 1, 1));
        due(BAD, x.truck(0, -1, 0, 1, 1));
        due(BAD, x.truck(0, 100000, 0, 1, 1));
        due(BAD, x.truck(0, 0, -1, 1, 1));
        due(BAD, x.truck(0, 0, 10000, 1, 1));
        due(BAD, x.truck(0, 0, 0, 0, 1));
        due(BAD, x.truck(0, 0, 0, 1, 1000));
        due(BAD, x.truck(0, 0, 0, 2, 1));
        due(BAD, x.truck(0, 0, 0, MAX, MIN));
        due(1, x.truck(0, 101, 0, 10, 20));
        due(6, x.span(0, 0));
        due(10, x.span(0, 1));
        due(2, x.truck(1, 99999, 9999, 1, 1));
        due(90000, x.span(1, 0));
        due(109998, x.span(1, 1));
        due(3, x.truck(2, 5, 6, 3, 999));
        due(0, x.span(2, 0));
        due(3, x.span(2, 1));
        due(4, x.truck(3, 100, 1, 9, 9));
        due(11, x.span(3, 0));
        due(11, x.span(3, 1));
        due(5, x.truck(4, 0, 0, 999, 999));
        due(0, x.span(4, 1));
        due(6, x.truck(5, 11, 0, 6, 10));
        due(NONE, x.span(5, 0));
        for (int k = 7; k < 13; k++) {
            due(k, x.truck(5, 1, 1, 1, 1));
        }
        due(FULL, x.truck(5, 1, 1, 1, 1));
        due(BAD, x.truck(5, 1, 1, 2, 1));
    }

    private static void span() {
        start(14);
        LoveLocks x = withPanels(2);
        due(0, x.span(1, 0));
        due(99999, x.span(1, 1));
        due(BAD, x.span(2, 0));
        due(BAD, x.span(-1, 0));
        due(BAD, x.span(0, 2));
        due(BAD, x.span(0, -1));
        x.photo(1, 10, 10);
        x.truck(1, 99, 0, 8, 9);
        due(11, x.span(1, 0));
        due(12, x.span(1, 1));
        due(0, x.span(0, 0));
        x.photo(1, 13, 0);
        due(NONE, x.span(1, 0));
        due(NONE, x.span(1, 1));
        due(BAD, x.span(1, 2));
        due(99999, x.span(0, 1));
    }

    private static void safe() {
        start(15);
        LoveLocks x = new LoveLocks();
        x.panel(7, 1000, 8);
        x.panel(1, 99999, 1);
        due(BAD, x.safe(2, 1));
        due(BAD, x.safe(0, 0));
        due(BAD, x.safe(0, 1000));
        due(0, x.safe(0, 1));
        due(1, x.safe(1, 1));
        due(0, x.safe(1, 2));
        x.photo(0, 5, 5);
        due(1, x.safe(0, 100));
        due(0, x.safe(0, 101));
        x.photo(0, 4, 0);
        due(NONE, x.safe(0, 1));
        due(BAD, x.safe(0, 0));
        x.truck(1, 99999, 9999, 1, 1);
        due(0, x.safe(1, 999));
        LoveLocks y = withPanels(1);
        y.photo(0, 0, 0);
        due(1, y.safe(0, 999));
    }

    private static void type() {
        start(16);
        LoveLocks x = withLocks(1);
        due(BAD, x.type(65, 0));
        due(BAD, x.type(65, 9));
        due(BAD, x.type(65, -1));
        due(BAD, x.type(0x4141414141414141L, 9));
        due(BAD, x.type(65, MIN));
        due(BAD, x.type(31, 1));
        due(BAD, x.type(127, 1));
        due(BAD, x.type(0x41FF, 2));
        due(BAD, x.type(0xFF41, 2));
        due(BAD, x.type(-1L, 8));
        due(BAD, x.type(0x41, 2));
        due(1, x.type(0xFF00000000000041L, 1));
        due(3, x.type(0x2B42, 2));
        due(2, x.letters(0));
        due(8, x.type(0x7E20202020202020L, 8));
        due(16, x.type(0x2020202020202020L, 8));
        due(24, x.type(0x2020202020202020L, 8));
        due(32, x.type(0x2020202020202020L, 8));
        due(39, x.type(0x20202020202020L, 7));
        due(FULL, x.type(0x2020, 2));
        due(BAD, x.type(0x1F20, 2));
        due(40, x.type(0x41, 1));
        due(FULL, x.type(0x41, 1));
        due(-20, x.person());
        due(1, x.type(0x41, 1));
    }

    private static void personName() {
        start(17);
        LoveLocks x = withLocks(1);
        due(-20, x.person());
        due(0, person(x, "A"));
        due(1, person(x, "ZZZZZZ"));
        due(-26, person(x, "ABCDEFG"));
        due(-27, person(x, "ABCDEF G"));
        due(-23, person(x, "   "));
        due(-22, person(x, " Aa"));
        due(-21, person(x, "A@"));
        due(-21, person(x, "A["));
        due(-20, person(x, "?"));
        due(-21, person(x, "A+B"));
        due(2, person(x, "  A B  C "));
        due(3, person(x, "A"));
        due(1, x.type(65, 1));
        due(4, x.person());
        due(-20, x.person());
        for (int k = 5; k < 8; k++) {
            due(k, person(x, "X"));
        }
        due(-21, person(x, "X1"));
        due(FULL, person(x, "X"));
        due(-20, x.person());
        due(8, x.count(4));
        due(4, letters(x, 0, "ABC+?"));
        due(6, x.readings(0));
    }

    private static void lettersOfLock() {
        start(18);
        LoveLocks x = withLocks(14);
        tape(x, "AB+C");
        due(BAD, x.letters(14));
        due(BAD, x.letters(-1));
        due(3, x.letters(0));
        due(-20, x.letters(0));
        due(12, letters(x, 0, "??????+??????"));
        due(2, letters(x, 0, "  A  +  ?  "));
        due(-21, letters(x, 0, "A"));
        due(-22, letters(x, 0, "A+"));
        due(-23, letters(x, 0, "A+ "));
        due(-20, letters(x, 0, "+A"));
        due(-22, letters(x, 0, "A++B"));
        due(-23, letters(x, 0, "A+B+C"));
        due(-26, letters(x, 0, "ABCDEFG+A"));
        due(-28, letters(x, 0, "A+ABCDEFG"));
        due(-22, letters(x, 0, "A+b"));
        due(-20, letters(x, 0, "1+B"));
        due(1, x.count(5));
        x.cut(1);
        for (int k = 1; k < 12; k++) {
            due(2, letters(x, k, "A+B"));
        }
        due(12, x.count(5));
        due(FULL, letters(x, 12, "A+B"));
        due(-20, x.letters(12));
        due(-22, letters(x, 12, "A+"));
        due(BAD, x.letters(14));
        due(4, letters(x, 11, "AA+BB"));
        due(12, x.count(5));
        due(NOT, x.readings(12));
    }

    private static void readings() {
        start(19);
        LoveLocks x = withLocks(3);
        person(x, "ANNA");
        person(x, "ANNE");
        person(x, "BOB");
        person(x, "ANNA");
        due(BAD, x.readings(3));
        due(BAD, x.readings(-1));
        due(NOT, x.readings(0));
        due(7, letters(x, 0, "ANN?+BOB"));
        due(3, x.readings(0));
        letters(x, 0, "BOB+ANNA");
        due(2, x.readings(0));
        letters(x, 0, "BOB+?OB");
        due(0, x.readings(0));
        letters(x, 0, "????+????");
        due(3, x.readings(0));
        letters(x, 0, "ANNA+????");
        due(3, x.readings(0));
        letters(x, 0, "ANN+BOB");
        due(0, x.readings(0));
        letters(x, 0, "ANNA?+BOB");
        due(0, x.readings(0));
        x.cut(0);
        letters(x, 0, "ANNE+B?B");
        due(1, x.readings(0));
    }

    private static void ways() {
        start(20);
        LoveLocks x = withPanels(1);
        due(1, x.ways());
        x.hang(0, 0, 1, 0, 5);
        x.hang(0, 0, 1, 0, 5);
        x.hang(0, 0, 1, 0, 6);
        person(x, "A");
        person(x, "B");
        person(x, "C");
        person(x, "D");
        letters(x, 0, "?+?");
        due(6, x.ways());
        letters(x, 1, "?+?");
        due(6, x.ways());
        letters(x, 2, "?+A");
        due(18, x.ways());
        x.cut(1);
        due(18, x.ways());
        letters(x, 1, "A+B");
        due(3, x.ways());
        letters(x, 1, "A+E");
        due(0, x.ways());
        letters(x, 0, "?+?");
        letters(x, 1, "?+?");
        x.hang(0, 0, 1, 0, 5);
        letters(x, 3, "?+?");
        due(0, x.ways());
        person(x, "E");
        due(0, x.ways());
        person(x, "F");
        due(90 * 5, x.ways());
        LoveLocks y = withLocks(12);
        for (int k = 0; k < 8; k++) {
            person(y, "P");
        }
        for (int k = 0; k < 12; k++) {
            letters(y, k, "P+?");
        }
        long all = 1;
        for (int k = 0; k < 12; k++) {
            all *= 28;
        }
        due(all, y.ways());
    }

    private static LoveLocks read() {
        LoveLocks x = withPanels(1);
        x.hang(0, 0, 1, 0, 5);
        x.hang(0, 0, 1, 0, 5);
        x.hang(0, 0, 1, 0, 6);
        x.hang(0, 0, 1, 0, 6);
        person(x, "A");
        person(x, "B");
        person(x, "C");
        person(x, "DD");
        person(x, "EE");
        letters(x, 0, "A+??");
        letters(x, 1, "DD+?");
        letters(x, 2, "C+A");
        return x;
    }

    private static void who() {
        start(21);
        LoveLocks x = read();
        due(2, x.ways());
        due(17, x.who(0, 0));
        due(17, x.who(0, 1));
        due(14, x.who(1, 0));
        due(8, x.who(1, 1));
        due(5, x.who(2, 0));
        due(5, x.who(2, 1));
        due(NOT, x.who(3, 0));
        due(BAD, x.who(4, 0));
        due(BAD, x.who(-1, 0));
        due(BAD, x.who(0, 2));
        due(BAD, x.who(3, -1));
        letters(x, 3, "A+B");
        due(NONE, x.who(0, 0));
        due(NONE, x.who(3, 1));
        due(BAD, x.who(0, 2));
    }

    private static void where() {
        start(22);
        LoveLocks x = read();
        int[] some = {5, 2, 6, 2, 1};
        int[] all = {5, 0, 4, 2, 1};
        for (int p = 0; p < 5; p++) {
            due(some[p], x.where(p, 0));
            due(all[p], x.where(p, 1));
        }
        due(BAD, x.where(5, 0));
        due(BAD, x.where(-1, 0));
        due(BAD, x.where(0, 2));
        due(BAD, x.where(0, -1));
        letters(x, 3, "A+B");
        due(NONE, x.where(0, 0));
        due(BAD, x.where(5, 0));
        LoveLocks y = withLocks(2);
        due(BAD, y.where(0, 0));
        person(y, "A");
        due(0, y.where(0, 0));
        due(0, y.where(0, 1));
    }

    private static void nightly() {
        start(23);
        LoveLocks x = new LoveLocks();
        due(BAD, x.nightly(0));
        due(BAD, x.nightly(4));
        due(BAD, x.nightly(MIN));
        due(2, x.nightly(3));
        due(3, x.nightly(1));
        due(BAD, x.nightly(-1));
        due(1, x.nightly(1));
    }

    private static void risk() {
        start(24);
        LoveLocks x = withPanels(2);
        due(BAD, x.risk(2, 0, 0));
        due(BAD, x.risk(-1, 0, 0));
        due(BAD, x.risk(0, 3, 0));
        due(BAD, x.risk(0, -1, 0));
        due(BAD, x.risk(0, 0, 100));
        due(BAD, x.risk(0, 0, -1));
        due(BAD, x.risk(0, 1, 10));
        due(BAD, x.risk(0, 1, -1));
        due(BAD, x.risk(0, 2, 6));
        due(BAD, x.risk(0, 2, -1));
        due(0, x.risk(0, 0, 99));
        due(99, x.risk(0, 0, 1));
        due(0, x.risk(0, 1, 9));
        due(9, x.risk(0, 1, 0));
        due(0, x.risk(0, 2, 5));
        due(5, x.risk(0, 2, 0));
        due(0, x.risk(1, 0, 0));
        due(1, x.risk(0, 0, 0));
    }

    private static void order() {
        start(25);
        LoveLocks x = new LoveLocks();
        due(NOT, x.order(-1));
        due(BAD, x.order(0));
        due(BAD, x.order(-2));
        x.panel(1, 1, 1);
        due(BAD, x.order(1));
        due(BAD, x.order(-2));
        x.risk(0, 0, 10);
        x.risk(0, 1, 2);
        x.risk(0, 2, 3);
        due(3, x.order(0));
        due(30 + 6, x.order(-1));
        x.panel(1, 1, 1);
        x.panel(1, 1, 1);
        x.risk(1, 0, 20);
        x.risk(2, 0, 30);
        due(0, x.order(1));
        due(0, x.order(2));
        x.nightly(1);
        due(1, x.order(1));
        due(0, x.order(2));
        due(56, x.order(-1));
        x.risk(1, 2, 3);
        x.risk(2, 2, 3);
        // panels 0, 1, 2 from night 3 on, one a night: 2, 1, 0 cost 90, 80, 50 and 2 times 10
        due(90 + 80 + 50 + 20, x.order(-1));
        due(5, x.order(0));
        due(4, x.order(1));
        due(3, x.order(2));
    }

    private static void orderOfLikeOnes() {
        start(25);
        row = 100;
        LoveLocks x = withPanels(5);
        due(0, x.order(-1));
        // what costs nothing waits: no panels are the least set
        int[] late = {9, 10, 10, 11, 11};
        for (int p = 0; p < 5; p++) {
            due(late[p], x.order(p));
        }
        x.nightly(3);
        due(10, x.order(0));
        due(10, x.order(1));
        due(11, x.order(2));
        x.risk(4, 1, 1);
        due(1, x.order(4));
        for (int p = 0; p < 5; p++) {
            x.risk(p, 0, 7);
        }
        x.risk(4, 1, 0);
        // three of five like ones in night 0: the least three
        due(0, x.order(0));
        due(0, x.order(2));
        due(1, x.order(3));
        due(1, x.order(4));
        due(14, x.order(-1));
    }

    private static void month() {
        start(26);
        LoveLocks x = new LoveLocks();
        due(BAD, x.month(-1, 0, 0));
        due(BAD, x.month(12, 0, 0));
        due(BAD, x.month(0, -1, 0));
        due(BAD, x.month(0, 1, 0));
        due(BAD, x.month(0, 0, 10000));
        due(BAD, x.month(11, MIN, MAX));
        due(1, x.month(11, 9999, 9999));
        due(1, x.month(0, 0, 9999));
        due(1, x.month(0, 7, 8));
        due(1, x.month(11, 0, 9999));
        due(7, x.grown(0, 0));
        due(8, x.grown(0, 1));
        due(1, x.month(0, 9, 9));
        due(9, x.grown(0, 0));
    }

    private static void laws() {
        start(27);
        LoveLocks x = new LoveLocks();
        due(210, x.laws(0));
        due(0, x.laws(1));
        due(0, x.laws(2));
        due(BAD, x.laws(3));
        due(BAD, x.laws(-1));
        x.month(0, 10, 10);
        x.month(1, 12, 12);
        // 10 becomes 10 and 10 a by 100, cut, and s: a 0 .. 9 with s 2, a 10 .. 19 with 1, a 20 with 0
        due(21, x.laws(0));
        due(0, x.laws(1));
        due(2, x.laws(2));
        x.month(2, 13, 13);
        // 12 becomes 13: a 10 .. 16 give 1, and s 1 makes 14; a 20 gives 2; a 0 .. 8 none, s 2; 9: 1, s 2
        due(0, x.laws(0));
        due(NONE, x.laws(1));
        due(NONE, x.laws(2));
        x.month(2, 15, 15);
        // a 9: 12 and 1 and 2; a 17 .. 19: 12 and 2 and 1
        due(4, x.laws(0));
        due(9, x.laws(1));
        due(2, x.laws(2));
        due(BAD, x.laws(4));
        LoveLocks y = new LoveLocks();
        y.month(11, 0, 0);
        due(21, y.laws(0));
        due(0, y.grown(0, 1));
        y.month(11, 9, 9);
        y.month(10, 0, 0);
        due(0, y.laws(0));
    }

    private static void grown() {
        start(28);
        LoveLocks x = new LoveLocks();
        due(BAD, x.grown(-1, 0));
        due(BAD, x.grown(12, 0));
        due(BAD, x.grown(0, -1));
        due(BAD, x.grown(0, 2));
        due(0, x.grown(11, 0));
        due(9999, x.grown(0, 1));
        due(9999 + 1999 + 9, x.grown(1, 1));
        x.month(0, 100, 200);
        x.month(1, 130, 140);
        // at the most 140 less 0, at the least with 20 by 100 and 9
        due(101, x.grown(0, 0));
        due(140, x.grown(0, 1));
        due(130, x.grown(1, 0));
        due(140, x.grown(1, 1));
        due(130, x.grown(11, 0));
        x.month(5, 0, 0);
        due(NONE, x.grown(0, 0));
        due(NONE, x.grown(11, 1));
        due(BAD, x.grown(12, 1));
    }

    private static LoveLocks sought() {
        LoveLocks x = withPanels(6);
        x.hang(0, 0, 1, 0, 0);
        x.hang(5, 0, 1, 0, 0);
        x.hang(2, 0, 1, 1, 19);
        x.hangOn(2, 1, 1, 19);
        x.hang(2, 1, 9, 1, 19);
        return x;
    }

    private static void ask() {
        start(29);
        LoveLocks x = sought();
        due(BAD, x.ask(0, 0));
        due(BAD, x.ask(32, 0));
        due(BAD, x.ask(33, 1));
        due(BAD, x.ask(-1, 0));
        due(BAD, x.ask(MIN, 0));
        due(BAD, x.ask(1, 2));
        due(BAD, x.ask(1, -1));
        due(0, x.ask(3, 0));
        due(1, x.ask(3, 1));
        due(2, x.ask(6, 0));
        due(1, x.ask(6, 1));
        due(31, x.ask(12, 0));
        due(1, x.ask(12, 1));
        due(0, x.ask(20, 0));
        due(2, x.ask(20, 1));
        due(10, x.ask(31, 0));
        due(3, x.ask(31, 1));
        x.hang(5, 0, 1, 1, 0);
        due(30, x.ask(2 + 32, 0));
        due(1, x.ask(2 + 32, 1));
        x.cut(2);
        due(BAD, x.ask(4, 0));
        due(BAD, x.ask(8 + 1, 1));
        LoveLocks z = withPanels(3);
        z.hang(1, 0, 1, 0, 3);
        z.hang(2, 0, 1, 0, 3);
        z.hang(0, 0, 1, 0, 3);
        due(1, z.ask(3, 0));
        due(1, z.needed(3));
        due(0, z.ask(5, 0));
        due(1, z.needed(5));
        due(0, z.ask(7, 0));
        due(0, x.ask(1, 0));
        due(1, x.ask(1, 1));
        LoveLocks y = withLocks(14);
        due(16, y.ask((1 << 14) - 1, 0));
        due(7, y.ask((1 << 14) - 1, 1));
    }

    private static void needed() {
        start(30);
        LoveLocks x = sought();
        due(BAD, x.needed(0));
        due(BAD, x.needed(32));
        due(BAD, x.needed(-1));
        due(0, x.needed(16));
        due(1, x.needed(3));
        due(1, x.needed(12));
        due(NONE, x.needed(20));
        due(NONE, x.needed(31));
        due(2, x.needed(15));
        due(2, x.needed(7));
        x.cut(2);
        due(BAD, x.needed(4));
        due(BAD, x.needed(3 + 8));
        due(4, withLocks(14).needed((1 << 14) - 1));
        due(3, withLocks(14).needed(255));
        due(4, withLocks(14).needed(511));
    }

    private static void stolen() {
        start(31);
        LoveLocks x = withPanels(2);
        x.hang(1, 2, 10, 1, 0);
        x.hangOn(0, 20, 0, 0);
        x.hangOn(1, 5, 0, 0);
        x.hangOn(1, 5, 1, 0);
        x.hang(1, 2, 30, 0, 0);
        x.hang(1, 2, 30, 1, 0);
        due(BAD, x.stolen(2, 0, 0, 0));
        due(BAD, x.stolen(-1, 0, 0, 0));
        due(BAD, x.stolen(0, 3, 0, 0));
        due(BAD, x.stolen(0, -1, 0, 0));
        due(BAD, x.stolen(0, 0, -1, 0));
        due(BAD, x.stolen(0, 0, 100000, 0));
        due(BAD, x.stolen(0, 0, 0, 3));
        due(BAD, x.stolen(0, 0, 0, -1));
        // of 100: lock 1 pulls 2 and 3, 30 in all, or lock 4
        due(2, x.stolen(1, 2, 70, 0));
        due(0, x.stolen(1, 2, 70, 1));
        due(30, x.stolen(1, 2, 70, 2));
        due(1, x.stolen(1, 2, 65, 0));
        due(20, x.stolen(1, 2, 65, 1));
        due(1, x.stolen(1, 2, 95, 0));
        due(4, x.stolen(1, 2, 95, 2));
        due(1, x.stolen(1, 2, 40, 0));
        due(30, x.stolen(1, 2, 40, 1));
        due(0, x.stolen(1, 2, 100, 0));
        due(NONE, x.stolen(1, 2, 100, 1));
        due(NONE, x.stolen(1, 2, 100, 2));
        due(0, x.stolen(1, 2, 99999, 0));
        due(0, x.stolen(1, 2, 0, 0));
        due(0, x.stolen(0, 0, 0, 0));
        x.cut(1);
        due(0, x.stolen(1, 2, 65, 0));
        due(1, x.stolen(1, 2, 40, 0));
        due(16, x.stolen(1, 2, 40, 1));
        due(3, x.count(2));
    }

    private static void fill(LoveLocks x) {
        x.panel(10, 20, 30);
        x.hang(0, 1, 5, 0, 3);
        x.hangOn(0, 2, 1, 4);
        x.photo(0, 3, 4);
        person(x, "ANNA");
        person(x, "BOB");
        letters(x, 1, "ANN?+?OB");
        x.nightly(3);
        x.risk(0, 0, 8);
        x.risk(0, 1, 7);
        x.risk(0, 2, 2);
        x.month(0, 100, 100);
        x.month(1, 110, 112);
    }

    private static void change(LoveLocks x) {
        x.cut(0);
        x.panel(1, 1, 1);
        x.hang(1, 0, 1, 0, 0);
        x.photo(0, 0, 3);
        x.truck(1, 5, 5, 5, 5);
        person(x, "BOB");
        letters(x, 0, "A+B");
        letters(x, 1, "AB+CD");
        x.nightly(1);
        x.risk(0, 0, 1);
        x.risk(0, 1, 2);
        x.risk(0, 2, 3);
        x.month(0, 5, 5);
        x.month(1, 1, 1);
        x.month(11, 9, 9);
    }

    private static void isAsFilled(LoveLocks x) {
        int[] counts = {1, 2, 0, 1, 2, 1};
        for (int what = 0; what < 6; what++) {
            due(counts[what], x.count(what));
        }
        int[] lock = {2, 1, 4, 0, 1, 0, 0, 0};
        for (int what = 0; what < 8; what++) {
            due(lock[what], x.told(1, what));
        }
        due(7, x.load(0, 1));
        due(3, x.span(0, 0));
        due(7, x.span(0, 1));
        due(0, x.safe(0, 3));
        due(1, x.ways());
        due(2, x.where(0, 1));
        due(16 + 7, x.order(-1));
        due(1, x.laws(1));
        due(9, x.laws(2));
        due(100, x.grown(0, 1));
    }

    private static void image() {
        start(32);
        LoveLocks x = new LoveLocks();
        due(1, x.image());
        fill(x);
        isAsFilled(x);
        due(1, x.image());
        isAsFilled(x);
        change(x);
        due(2, x.count(0));
        due(1, x.image());
        x.cut(2);
        due(1, x.restore());
        due(2, x.count(2));
        due(2, x.count(0));
        due(1, x.nightly(1));
    }

    private static void restore() {
        start(33);
        LoveLocks y = withPanels(1);
        y.image();
        y.photo(0, 5, 5);
        y.restore();
        due(0, y.span(0, 0));
        due(99999, y.span(0, 1));
        y.photo(0, 7, 1);
        y.image();
        y.photo(0, 8, 0);
        due(8, y.span(0, 0));
        y.restore();
        due(7, y.span(0, 0));
        due(8, y.span(0, 1));
        LoveLocks x = new LoveLocks();
        due(NONE, x.restore());
        fill(x);
        due(1, x.image());
        change(x);
        x.sheet(0, 1, 3);
        x.type(0x5858, 2);
        due(1, x.restore());
        isAsFilled(x);
        due(3, x.type(0x58, 1));
        due(3, x.drop(0));
        change(x);
        due(1, x.restore());
        isAsFilled(x);
        due(3, x.nightly(3));
        due(8, x.risk(0, 0, 8));
        due(7, x.risk(0, 1, 7));
        due(2, x.risk(0, 2, 2));
        due(1, x.panel(99999, 1, 1));
        due(0, x.risk(1, 0, 1));
        due(0, x.span(1, 0));
        due(99999, x.span(1, 1));
        due(2, x.photo(1, 9, 1));
        due(9, x.span(1, 0));
        due(10, x.span(1, 1));
        due(NOT, x.readings(0));
        due(-20, x.person());
    }

    private static void months() {
        start(34);
        LoveLocks x = new LoveLocks();
        due(BAD, x.months(-1, 0, 0, 1));
        due(BAD, x.months(4, 0, 0, 1));
        due(BAD, x.months(0, 3, 0, 1));
        due(BAD, x.months(0, -1, 0, 1));
        due(BAD, x.months(0, 0, 0, 0));
        due(BAD, x.months(0, 0, 0, 13));
        due(NULL, x.months(0, 0, -1, 1));
        x.sheet(0, 2, 24);
        due(CAST, x.months(0, 1, -1, 1));
        due(INDEX, x.months(0, 2, -1, 1));
        due(INDEX, x.months(0, 2, 23, 1));
        due(INDEX, x.months(0, 2, 1, 12));
        due(INDEX, x.months(0, 2, MAX, 12));
        due(INDEX, x.months(0, 2, MIN, 12));
        for (int i = 0; i < 24; i++) {
            x.item(0, 2, i, i < 2 ? 10 : 20 + i);
        }
        due(12, x.months(0, 2, 0, 12));
        due(0, x.laws(0));
        x.item(0, 2, 5, 24);
        due(1, x.months(0, 2, 4, 1));
        x.item(0, 2, 5, 23);
        due(NOT, x.months(0, 2, 4, 1));
        x.item(0, 2, 22, 5);
        x.item(0, 2, 23, 6);
        due(1, x.months(0, 2, 22, 1));
        due(NOT, x.months(0, 2, 22 - 18, 10));
        x.item(0, 2, 23, 10000);
        due(NOT, x.months(0, 2, 22, 1));
        x.item(0, 2, 22, -1);
        x.item(0, 2, 23, 4);
        due(NOT, x.months(0, 2, 22, 1));
        LoveLocks y = new LoveLocks();
        y.sheet(1, 1, 6);
        y.item(1, 1, 1, 3);
        y.item(1, 1, 2, 50);
        y.item(1, 1, 3, 52);
        y.item(1, 1, 4, 1);
        due(NOT, y.months(1, 1, 0, 3));
        due(9999, y.grown(0, 1));
        due(1, y.months(1, 1, 2, 1));
        due(50, y.grown(0, 0));
        due(52, y.grown(0, 1));
        due(1, y.months(1, 1, 0, 1));
        due(3, y.grown(0, 1));
        y.sheet(2, 0, 2);
        y.item(2, 0, 1, 200);
        due(NOT, y.months(2, 0, 0, 1));
        y.item(2, 0, 1, 127);
        due(1, y.months(2, 0, 0, 1));
        due(127, y.grown(0, 1));
    }

    private static void sheet() {
        start(35);
        LoveLocks x = new LoveLocks();
        due(BAD, x.sheet(-1, 0, 0));
        due(BAD, x.sheet(4, 0, -1));
        due(BAD, x.sheet(0, -1, -1));
        due(BAD, x.sheet(0, 3, 0));
        due(BAD, x.sheet(0, 0, 25));
        due(BAD, x.sheet(0, 0, MAX));
        due(SIZE, x.sheet(0, 0, -1));
        due(SIZE, x.sheet(0, 0, MIN));
        due(NULL, x.drop(0));
        due(0, x.sheet(0, 0, 0));
        due(0, x.drop(0));
        due(24, x.sheet(3, 2, 24));
        x.item(3, 2, 0, 5);
        x.item(3, 2, 1, 5);
        due(SIZE, x.sheet(3, 1, -1));
        due(1, x.months(3, 2, 0, 1));
        due(5, x.grown(0, 1));
        due(2, x.sheet(3, 2, 2));
        due(1, x.months(3, 2, 0, 1));
        due(0, x.grown(0, 1));
        due(2, x.sheet(3, 0, 2));
        due(CAST, x.item(3, 2, 0, 1));
        due(2, x.drop(3));
    }

    private static void drop() {
        start(36);
        LoveLocks x = new LoveLocks();
        due(BAD, x.drop(-1));
        due(BAD, x.drop(4));
        due(NULL, x.drop(2));
        x.sheet(2, 1, 7);
        x.sheet(1, 1, 3);
        due(7, x.drop(2));
        due(NULL, x.drop(2));
        due(NULL, x.item(2, 1, 0, 0));
        due(3, x.drop(1));
    }

    private static void item() {
        start(37);
        LoveLocks x = new LoveLocks();
        due(BAD, x.item(-1, 0, 0, 0));
        due(BAD, x.item(4, 0, 0, 0));
        due(BAD, x.item(0, 3, -1, 0));
        due(BAD, x.item(0, -1, 0, 0));
        due(NULL, x.item(0, 0, -1, 0));
        x.sheet(0, 0, 2);
        due(CAST, x.item(0, 1, -1, 0));
        due(INDEX, x.item(0, 0, -1, 0));
        due(INDEX, x.item(0, 0, 2, 0));
        due(INDEX, x.item(0, 0, MAX, 0));
        due(INDEX, x.item(0, 0, MIN, 0));
        due(1, x.item(0, 0, 0, 256 + 5));
        due(1, x.item(0, 0, 1, -256 + 6));
        due(1, x.months(0, 0, 0, 1));
        due(5, x.grown(0, 0));
        due(6, x.grown(0, 1));
        x.sheet(1, 1, 2);
        due(1, x.item(1, 1, 0, 65536 + 300));
        due(1, x.item(1, 1, 1, 32768));
        due(NOT, x.months(1, 1, 0, 1));
        due(1, x.item(1, 1, 1, 301));
        due(1, x.months(1, 1, 0, 1));
        due(300, x.grown(0, 0));
        x.sheet(2, 2, 2);
        due(1, x.item(2, 2, 1, 65536 + 300));
        due(NOT, x.months(2, 2, 0, 1));
        x.sheet(3, 2, 0);
        due(INDEX, x.item(3, 2, 0, 0));
    }

    private static void copy() {
        start(38);
        LoveLocks x = new LoveLocks();
        due(BAD, x.copy(-1, 0, 0, 0, 0));
        due(BAD, x.copy(0, 0, 4, 0, 0));
        due(NULL, x.copy(0, 0, 1, 0, 0));
        x.sheet(0, 2, 6);
        due(NULL, x.copy(0, 0, 1, 0, 0));
        due(NULL, x.copy(1, 0, 0, 0, 0));
        x.sheet(1, 1, 6);
        due(CAST, x.copy(0, -1, 1, 0, -1));
        x.sheet(2, 2, 3);
        due(INDEX, x.copy(0, 0, 2, 0, -1));
        due(INDEX, x.copy(0, 0, 2, 0, 4));
        due(INDEX, x.copy(0, -1, 2, 0, 0));
        due(INDEX, x.copy(0, 7, 2, 0, 0));
        due(INDEX, x.copy(0, 0, 2, -1, 0));
        due(INDEX, x.copy(0, 0, 2, 4, 0));
        due(INDEX, x.copy(0, 5, 2, 0, 2));
        due(INDEX, x.copy(0, 0, 2, 0, MAX));
        due(INDEX, x.copy(0, MAX, 2, MAX, MAX));
        due(INDEX, x.copy(0, 0, 2, 0, MIN));
        due(0, x.copy(0, 6, 2, 3, 0));
        for (int i = 0; i < 6; i++) {
            x.item(0, 2, i, 10 * (i + 1));
        }
        due(3, x.copy(0, 2, 2, 0, 3));
        due(1, x.months(2, 2, 1, 1));
        due(40, x.grown(0, 0));
        due(50, x.grown(0, 1));
        // within one sheet, both ways: 10 10 20 30 40 60, then 10 20 30 40 40 60
        due(4, x.copy(0, 0, 0, 1, 4));
        x.months(0, 2, 3, 1);
        due(30, x.grown(0, 0));
        due(40, x.grown(0, 1));
        due(4, x.copy(0, 1, 0, 0, 4));
        x.months(0, 2, 0, 1);
        due(10, x.grown(0, 0));
        due(20, x.grown(0, 1));
        x.months(0, 2, 4, 1);
        due(40, x.grown(0, 0));
        due(60, x.grown(0, 1));
    }
}
