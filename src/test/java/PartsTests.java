import java.util.ArrayList;
import java.util.List;
import java.util.Set;
import java.util.function.Supplier;

/** A call changes what its promise says, and leaves all else: each call is held against a short look at each part. */
public final class PartsTests {
    private static int looks;
    private static int wrong;

    private interface Call {
        long of(LoveLocks x);
    }

    private enum Part { RAIL, SIGHTS, TAPE, NAMES, NIGHTS, GROWTH, IMAGE, SHEETS }

    public static void main(String[] args) {
        asking();
        rail();
        sights();
        names();
        cutsAndGrowth();
        images();
        sheets();
        System.out.println(wrong == 0 ? looks + " looks are as due" : wrong + " looks are not as due");
        if (wrong != 0) {
            System.exit(1);
        }
    }

    /** Lock 0 bears too much, 4 and 5 are gone; the image has two panels, two locks; sheet 3 holds nothing. */
    private static LoveLocks some() {
        LoveLocks x = new LoveLocks();
        x.panel(400, 700, 900);
        x.panel(500, 800, 950);
        x.hang(0, 0, 30, 0, 5);
        x.hangOn(0, 20, 1, 6);
        tape(x, "ANNA");
        x.person();
        x.photo(0, 5, 20);
        x.risk(0, 0, 12);
        x.month(0, 40, 60);
        x.image();
        x.panel(90, 80, 70);
        x.hangOn(1, 170, 0, 7);
        x.hang(1, 2, 10, 1, 5);
        x.hang(1, 1, 40, 0, 7);
        x.hangOn(4, 41, 0, 7);
        x.cut(4);
        x.truck(1, 300, 20, 10, 40);
        tape(x, "BOB");
        x.person();
        tape(x, "OTTO");
        x.person();
        tape(x, "AN?A+B?B");
        x.letters(0);
        tape(x, "????+BOB");
        x.letters(4);
        x.nightly(1);
        x.risk(0, 1, 3);
        x.risk(1, 0, 8);
        x.risk(1, 2, 2);
        x.month(1, 50, 70);
        x.month(4, 60, 80);
        for (int s = 0; s < 3; s++) {
            x.sheet(s, s, 4 + s);
            for (int i = 0; i < 4 + s; i++) {
                x.item(s, s, i, 10 * s + 2 * i + 1);
            }
        }
        tape(x, "BOB+");
        return x;
    }

    private static LoveLocks tape(LoveLocks x, String text) {
        for (int k = 0; k < text.length(); k++) {
            x.type(text.charAt(k), 1);
        }
        return x;
    }

    /** THE TAPE is emptied by a FAULT first. */
    private static LoveLocks someWith(String text) {
        LoveLocks x = some();
        x.person();
        return tape(x, text);
    }

    /** A look calls but calls of its own part: what another call spoils can't hide behind it. */
    private static List<Long> look(LoveLocks x, Part part) {
        List<Long> seen = new ArrayList<>();
        switch (part) {
            case RAIL -> lookAtTheRail(x, seen);
            case SIGHTS -> lookAtTheSights(x, seen);
            case TAPE -> {
                seen.add((long) x.type(0x3FL, 1));
                seen.add((long) x.letters(1));
            }
            case NAMES -> {
                for (int l = 0; l < 2; l++) {
                    seen.add((long) x.readings(4 * l));
                }
                seen.add((long) x.count(4));
                seen.add((long) x.count(5));
            }
            case NIGHTS -> {
                seen.add((long) x.nightly(2));
                for (int k = 0; k < 6; k++) {
                    seen.add((long) x.risk(k / 3, k % 3, 0));
                }
            }
            case GROWTH -> {
                for (int m = 0; m < 12; m++) {
                    seen.add(x.grown(m, 0));
                    seen.add(x.grown(m, 1));
                }
                seen.add((long) x.laws(0));
            }
            case IMAGE -> {
                seen.add((long) x.restore());
                lookAtTheRail(x, seen);
                lookAtTheSights(x, seen);
                seen.add((long) x.count(4));
                seen.add((long) x.nightly(3));
                seen.add((long) x.risk(0, 0, 0));
                seen.add(x.grown(0, 1));
            }
            default -> lookAtTheSheets(x, seen);
        }
        return seen;
    }

    private static void lookAtTheRail(LoveLocks x, List<Long> seen) {
        for (int what = 0; what < 3; what++) {
            seen.add((long) x.count(what));
        }
        for (int l = 0; l < 7; l++) {
            for (int what = 0; what < 8; what++) {
                seen.add((long) x.told(l, what));
            }
        }
        seen.add((long) x.over());
    }

    private static void lookAtTheSights(LoveLocks x, List<Long> seen) {
        seen.add((long) x.count(3));
        for (int p = 0; p < 2; p++) {
            seen.add((long) x.span(p, 0));
            seen.add((long) x.span(p, 1));
        }
    }

    private static void lookAtTheSheets(LoveLocks x, List<Long> seen) {
        for (int m = 0; m < 12; m++) {
            x.month(m, 0, 9999);
        }
        for (int s = 0; s < 4; s++) {
            for (int i = 0; i < 8; i += 2) {
                seen.add((long) x.months(s, s, i, 1));
                seen.add(x.grown(0, 0));
                seen.add(x.grown(0, 1));
            }
        }
    }

    /** The answer of a call, and that it changes some parts, and no others. */
    private static void changes(String name, long due, Call call, Part... told) {
        changes(PartsTests::some, name, due, call, told);
    }

    private static void changes(Supplier<LoveLocks> made, String name, long due, Call call, Part... told) {
        for (Part part : Part.values()) {
            looks++;
            LoveLocks x = made.get();
            long got = call.of(x);
            boolean changed = !look(x, part).equals(look(made.get(), part));
            if (got != due) {
                wrong++;
                System.out.println(name + " answered " + got + ", due is " + due);
            }
            if (changed != Set.of(told).contains(part)) {
                wrong++;
                System.out.println(name + (changed ? " changes " : " does not change ") + part);
            }
        }
    }

    private static void asking() {
        changes("told", 190, x -> x.told(0, 6));
        changes("load", 220, x -> x.load(0, 3));
        changes("on", 7, x -> x.on(0, 0));
        changes("over", 0, x -> x.over());
        changes("count", 2, x -> x.count(2));
        changes("span", 25, x -> x.span(0, 1));
        changes("safe", 0, x -> x.safe(0, 29));
        changes("readings", 1, x -> x.readings(0));
        changes("ways", 2, x -> x.ways());
        changes("who", 3, x -> x.who(0, 1));
        changes("where", 17, x -> x.where(1, 0));
        changes("order", 0, x -> x.order(0));
        changes("laws", 0, x -> x.laws(1));
        changes("grown", 41, x -> x.grown(0, 0));
        changes("ask", 10 + 5, x -> x.ask(7, 0));
        changes("needed", 2, x -> x.needed(7));
        changes("stolen", 1, x -> x.stolen(0, 0, 50, 0));
    }

    private static void rail() {
        changes("panel", 3, x -> x.panel(1, 2, 3), Part.RAIL);
        changes("hang", 6, x -> x.hang(1, 1, 1, 0, 0), Part.RAIL);
        changes("hangOn", 6, x -> x.hangOn(3, 1, 0, 0), Part.RAIL);
        changes("cut", 3, x -> x.cut(0), Part.RAIL);
        changes("giveWay", 3, x -> x.giveWay(), Part.RAIL);
    }

    private static void sights() {
        changes("photo", 3, x -> x.photo(0, 6, 2), Part.SIGHTS);
        changes("truck", 3, x -> x.truck(1, 300, 0, 20, 30), Part.SIGHTS);
    }

    private static void names() {
        changes("type", 5, x -> x.type('A', 1), Part.TAPE);
        changes("person, by a FAULT", -23, x -> x.person(), Part.TAPE);
        changes(() -> someWith("EVA"), "person", 3, x -> x.person(), Part.TAPE, Part.NAMES);
        changes("letters, by a FAULT", -24, x -> x.letters(2), Part.TAPE);
        changes(() -> someWith("B?B+????"), "letters", 7, x -> x.letters(2), Part.TAPE, Part.NAMES);
    }

    private static void cutsAndGrowth() {
        changes("nightly", 1, x -> x.nightly(3), Part.NIGHTS);
        changes("risk", 12, x -> x.risk(0, 0, 99), Part.NIGHTS);
        changes("month", 1, x -> x.month(0, 45, 46), Part.GROWTH);
    }

    private static void images() {
        changes("image", 1, x -> x.image(), Part.IMAGE);
        changes("restore", 1, x -> x.restore(), Part.RAIL, Part.SIGHTS, Part.NAMES, Part.NIGHTS, Part.GROWTH);
    }

    private static void sheets() {
        changes("months", 2, x -> x.months(2, 2, 0, 2), Part.GROWTH);
        changes("sheet", 6, x -> x.sheet(2, 2, 6), Part.SHEETS);
        changes("drop", 4, x -> x.drop(0), Part.SHEETS);
        changes("item", 1, x -> x.item(1, 1, 3, 77), Part.SHEETS);
        changes("copy", 2, x -> x.copy(2, 1, 2, 3, 2), Part.SHEETS);
    }
}
