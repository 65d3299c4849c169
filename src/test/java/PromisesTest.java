import java.util.NoSuchElementException;

/** For each promise: ordinary calls, the edges that the document names, and wrong ones. */
public final class PromisesTest {
    private static final int PLAIN = 0;
    private static final int PAIR = 1;
    private static final int CORE = 2;
    private static final int WET = 3;
    private static final int DANGER = 4;
    private static final int SHELL = 5;
    private static final Class<?> ILLEGAL = IllegalArgumentException.class;
    private static final Class<?> STATE = IllegalStateException.class;
    private static final Class<?> INDEX = IndexOutOfBoundsException.class;
    private static final Class<?> MISSING = NoSuchElementException.class;

    private PromisesTest() {
    }

    public static void main(String[] args) {
        newObject();
        sheets();
        rows();
        puts();
        putWidths();
        tears();
        feeds();
        fits();
        fitPlaces();
        fitOpens();
        fitNumbers();
        fitLimit();
        says();
        parts();
        partBounds();
        partShells();
        partLimit();
        told();
        cars();
        carLimit();
        about();
        drains();
        papers();
        hindrances();
        hindrancesOfFullShelf();
        hindrancesOfAllItems();
        takes();
        presses();
        days();
        lates();
        items();
        values();
        finds();
        findOrder();
        founds();
        sells();
        pairs();
        dangers();
        backs();
        backToFullShelf();
        bests();
        bestTies();
        worths();
        grams();
        counts();
        tills();
        undos();
        undoLimit();
        undoForgets();
        undoKept();
        Check.end();
    }

    // ---- Promise 1

    private static void newObject() {
        BreakersYard yard = new BreakersYard();
        Check.due("NONE", BreakersYard.NONE, -1);
        for (int what = 0; what <= 7; what++) {
            Check.due("new count " + what, yard.count(what), 0);
        }
        Check.due("new till", yard.till(), 0);
        Check.due("new found", yard.found(0), -1);
        Check.due("new undo", yard.undo(), -1);
        Check.due("new late", yard.late(0, 0), -1);
        Check.due("new grams", yard.grams(0, 0), 0);
        Check.dueThrow("new told", MISSING, () -> yard.told(0, 0, 0));
        Check.dueThrow("new about", MISSING, () -> yard.about(0, 0));
        Check.dueThrow("new item", MISSING, () -> yard.item(0, 0));
        Check.dueThrow("new says", INDEX, () -> yard.says(0, 0, 0, 0));
        Check.dueThrow("new row", INDEX, () -> yard.row(0, 0, 1));
    }

    // ---- Promises 2 to 5

    private static void sheets() {
        BreakersYard yard = new BreakersYard();
        Check.dueThrow("sheet -1", ILLEGAL, () -> yard.sheet(-1));
        Check.dueThrow("sheet 3", ILLEGAL, () -> yard.sheet(3));
        for (int number = 0; number < 8; number++) {
            Check.due("sheet", yard.sheet(number % 3), number);
        }
        Check.dueThrow("ninth sheet", STATE, () -> yard.sheet(0));
        Check.dueThrow("ninth sheet of no width", ILLEGAL, () -> yard.sheet(3));
        Check.due("sheets", yard.count(0), 8);
        for (int k = 0; k < 16; k++) {
            Check.due("row missing at first", yard.tear(7, k), 0);
        }
    }

    private static void rows() {
        BreakersYard yard = new BreakersYard();
        yard.sheet(2);
        Check.due("row of 0", yard.row(0, 0, 0), 0);
        Check.due("no place in a row of 0", yard.put(0, 0, 0, 1), -2);
        Check.due("row of 12", yard.row(0, 15, 12), 12);
        Check.due("row of 13", yard.row(0, 15, 13), -1);
        Check.due("row of -1", yard.row(0, 15, -1), -1);
        Check.due("row is as it was", yard.put(0, 15, 11, 1), 1);
        Check.due("row of 13 makes none", yard.row(0, 1, 13), -1);
        Check.due("it is missing", yard.put(0, 1, 0, 1), -1);
        Check.dueThrow("row 16", INDEX, () -> yard.row(0, 16, 1));
        Check.dueThrow("row -1", INDEX, () -> yard.row(0, -1, 1));
        Check.dueThrow("row of sheet 1", INDEX, () -> yard.row(1, 0, 1));
        Check.dueThrow("row of sheet -1", INDEX, () -> yard.row(-1, 0, 1));
        Check.dueThrow("row of 13 of sheet 1", INDEX, () -> yard.row(1, 0, 13));
        // A new row in the old one's place is all 0 again: MINUTES 0 are beyond.
        Check.fillRow(yard, 0, 2, 0, 5, -1, 10, 100, 0, 50);
        Check.due("part of the old row", yard.part(0, 0, 2), 0);
        yard.row(0, 2, 7);
        Check.due("part of the new row", yard.part(0, 0, 2), -3);
        Check.fillRow(yard, 0, 3, 4, 5, 6, 7, 8, 9, 10, 11, 12, 13, 14, 15);
        yard.row(0, 3, 7);
        yard.put(0, 3, 2, -1);
        yard.put(0, 3, 3, 1);
        yard.put(0, 3, 4, 1);
        Check.due("part of a row renewed", yard.part(0, 0, 3), 1);
        for (int what : new int[] {0, 1, 5, 6}) {
            Check.due("0 at first: " + what, yard.told(0, 1, what), 0);
        }
        yard.row(0, 3, 0);
        yard.row(0, 3, 7);
        yard.put(0, 3, 3, 1);
        yard.put(0, 3, 4, 1);
        Check.due("part of a row renewed again", yard.part(0, 0, 3), 2);
        Check.due("ahead is 0", yard.told(0, 2, 2), 0);
    }

    private static void puts() {
        BreakersYard yard = new BreakersYard();
        yard.sheet(1);
        yard.row(0, 3, 4);
        Check.due("put first", yard.put(0, 3, 0, 9), 1);
        Check.due("put last", yard.put(0, 3, 3, 9), 1);
        Check.due("put behind", yard.put(0, 3, 4, 9), -2);
        Check.due("put ahead", yard.put(0, 3, -1, 9), -2);
        Check.due("put on a missing row", yard.put(0, 4, 0, 9), -1);
        Check.due("put nowhere on a missing row", yard.put(0, 4, 99, 9), -1);
        Check.fillRow(yard, 0, 0, SHELL, 0, -1, 1, 1, 0, 0);
        Check.due("put at the first place of all", yard.put(0, 0, 0, DANGER), 1);
        Check.due("part of the first row", yard.part(0, 0, 0), 0);
        Check.due("what stood at the first place", yard.told(0, 0, 0), DANGER);
        Check.dueThrow("put on row 16", INDEX, () -> yard.put(0, 16, 0, 0));
        Check.dueThrow("put on row -1", INDEX, () -> yard.put(0, -1, 0, 0));
        Check.dueThrow("put on sheet 1", INDEX, () -> yard.put(1, 0, 0, 0));
        Check.dueThrow("put far off", INDEX, () -> yard.put(Integer.MAX_VALUE, Integer.MIN_VALUE, 0, 0));
    }

    private static void putWidths() {
        BreakersYard yard = new BreakersYard();
        long[] over = {1L << 16, 1L << 32, 0};
        for (int width = 0; width < 3; width++) {
            yard.sheet(width);
            Check.fillRow(yard, width, 0, 0, over[width] + 7, -1, 10, 100, 0, 50);
            Check.due("part of width " + width, yard.part(width, width, 0), 0);
            Check.due("name of width " + width, yard.told(width, 0, 1), 7);
        }
        yard.put(0, 0, 1, 0xFFFFL);
        Check.due("16 bits have a sign", yard.part(0, 0, 0), -3);
        yard.put(0, 0, 1, 7);
        yard.put(0, 0, 2, 0xFFFFL);
        Check.due("16 bits of ones are -1", yard.part(0, 0, 0), 1);
        yard.put(1, 0, 2, 0xFFFFFFFFL);
        Check.due("32 bits of ones are -1", yard.part(1, 1, 0), 1);
        yard.put(1, 0, 4, 200000);
        Check.due("32 bits hold 200,000", yard.part(1, 1, 0), 2);
        yard.put(2, 0, 2, 0xFFFFFFFFL);
        Check.due("64 bits hold more", yard.part(2, 2, 0), -3);
    }

    private static void tears() {
        BreakersYard yard = new BreakersYard();
        yard.sheet(0);
        Check.due("tear none", yard.tear(0, 5), 0);
        yard.row(0, 5, 0);
        Check.due("tear an empty row", yard.tear(0, 5), 1);
        Check.due("tear again", yard.tear(0, 5), 0);
        Check.due("torn", yard.put(0, 5, 0, 0), -1);
        Check.due("part of a torn row", yard.part(0, 0, 5), -1);
        Check.due("row again", yard.row(0, 5, 2), 2);
        Check.dueThrow("tear row 16", INDEX, () -> yard.tear(0, 16));
        Check.dueThrow("tear row -1", INDEX, () -> yard.tear(0, -1));
        Check.dueThrow("tear sheet 1", INDEX, () -> yard.tear(1, 0));
    }

    // ---- Promises 6 to 8

    private static void feeds() {
        BreakersYard yard = new BreakersYard();
        for (int fed = 20; fed <= 100; fed += 20) {
            Check.due("feed", yard.feed(0x20202020, 0x20202020, 0x20202020, 0x20202020, 0x20202020), fed);
            Check.due("bytes", yard.count(7), fed);
        }
        Check.due("feed too much", yard.feed(0x41414141, 0, 0, 0, 0), -1);
        Check.due("bytes after too much", yard.count(7), 100);
        Check.due("a hundred blanks", yard.fit(100), -102);
        Check.due("the tape is empty", yard.count(7), 0);
        // "M1&Y20-30" and "|Kb" by hand: the highest byte of each number is the first.
        yard.feed(0x4D312659, 0x32302D33, 0x307C4B62, 0xFFFFFFFF, 0x80808080);
        Check.due("fed by hand", yard.fit(12), 0);
        Check.due("by hand, year", yard.says(0, 1, 25, 0), true);
        Check.due("by hand, mark", yard.says(0, 2, 25, 2), true);
        Check.due("by hand, neither", yard.says(0, 2, 25, 1), false);
        yard.feed(0x4D312659, 0x32302D33, 0x307C4B62, 0xFFFFFFFF, 0x80808080);
        Check.due("a byte above 127", yard.fit(13), -14);
    }

    private static void fits() {
        BreakersYard yard = new BreakersYard();
        Check.due("a test", Check.fitText(yard, "M1"), 0);
        Check.due("all signs", Check.fitText(yard, " ! ( M 1 | Y 2 - 3 ) & K a "), 1);
        Check.due("fits", yard.count(1), 2);
        Check.dueThrow("nothing on the tape", ILLEGAL, () -> yard.fit(1));
        Check.dueThrow("less than nothing", ILLEGAL, () -> yard.fit(-1));
        Check.feedText(yard, "M1");
        Check.dueThrow("more than there is", ILLEGAL, () -> yard.fit(21));
        Check.due("the tape is still there", yard.count(7), 20);
        Check.due("the first two", yard.fit(2), 2);
        Check.due("the tape is empty", yard.count(7), 0);
        Check.feedText(yard, "M2");
        Check.due("none of it", yard.fit(0), -2);
        Check.due("the tape is empty again", yard.count(7), 0);
        Check.due("a hundred bytes", Check.fitText(yard, "M1|".repeat(32) + "M123"), 3);
        Check.due("the last of them", yard.says(3, 123, 0, 0), true);
        Check.due("not half of it", yard.says(3, 12, 0, 0), false);
        Check.due("a hundred bytes to no end", Check.fitText(yard, "M1&".repeat(33) + " "), -102);
        String nots = "!".repeat(20) + "M1";
        Check.due("many steps", Check.fitText(yard, nots + ("&" + nots).repeat(3)), 4);
        Check.due("many steps, true", yard.says(4, 1, 0, 0), true);
        Check.due("many steps, false", yard.says(4, 2, 0, 0), false);
    }

    private static void fitPlaces() {
        place("", 0);
        place("   ", 3);
        place("m1", 0);
        place("X", 0);
        place("M", 1);
        place("M ", 2);
        place("M-1", 1);
        place("Ma", 1);
        place("M1 2", 3);
        place("M1M1", 2);
        place("M1 K", 3);
        place("M1)", 2);
        place("M1|", 3);
        place("M1|&M1", 3);
        place("M1&|M1", 3);
        place("M1&", 3);
        place("M1&  ", 5);
        place("M1||M2", 3);
        place("Y1", 2);
        place("Y1-", 3);
        place("Y1 2", 3);
        place("Y-", 1);
        place("Y1--2", 3);
        place("Y1-2-3", 4);
        place("Y1-2M3", 4);
        place("K", 1);
        place("Ki", 1);
        place("KA", 1);
        place("K`", 1);
        place("K1", 1);
        place("Kab", 2);
        place("!", 1);
        place("!!", 2);
        place("!&", 1);
        place("M1!", 2);
        place("(", 1);
        place("()", 1);
        place("(M1", 3);
        place("(M1))", 4);
        place("(M1&)", 4);
        place("(M1!M2)", 3);
        place("M1\t", 2);
        place("M1" + (char) 160, 2);
        place((char) 205 + "1", 0);
        place("M1" + (char) 0, 2);
        place("-M1", 0);
        place("1", 0);
    }

    private static void place(String text, int place) {
        BreakersYard yard = new BreakersYard();
        Check.feedText(yard, text.isEmpty() ? " " : text);
        Check.due("place in \"" + text + "\"", yard.fit(text.length()), -2 - place);
        Check.due("no fit of \"" + text + "\"", yard.count(1), 0);
    }

    private static void fitOpens() {
        BreakersYard yard = new BreakersYard();
        String nots = "!".repeat(20);
        String opens = "(".repeat(20);
        Check.due("20 nots", Check.fitText(yard, nots + "M1"), 0);
        Check.due("20 brackets", Check.fitText(yard, opens + "M1" + ")".repeat(20)), 1);
        Check.due("10 and 10", Check.fitText(yard, "!(".repeat(10) + "M1" + ")".repeat(10)), 2);
        Check.due("nots end", Check.fitText(yard, nots + "M1&" + nots + "M1|!M2"), 3);
        Check.due("brackets end", Check.fitText(yard, "(".repeat(19) + "(M1)&(M1)|!M2" + ")".repeat(19)), 4);
        Check.due("21 nots", Check.fitText(yard, nots + "!M1"), -22);
        Check.due("21 brackets", Check.fitText(yard, opens + "(M1"), -22);
        Check.due("a not in 20 brackets", Check.fitText(yard, opens + " !M1"), -23);
        Check.due("a bracket in 20 nots", Check.fitText(yard, nots + "  (M1)"), -24);
        Check.due("later in 20 brackets", Check.fitText(yard, opens + "M1&!M1"), -25);
        Check.due("a not holds while its unit is open", Check.fitText(yard, "!(".repeat(10) + "M1|!M2"), -25);
        Check.due("a not is shut behind its unit", Check.fitText(yard,
                "(".repeat(18) + "!!M1|!!M2&!(M3)" + ")".repeat(18)), 5);
    }

    private static void fitNumbers() {
        BreakersYard yard = new BreakersYard();
        Check.due("leading noughts", Check.fitText(yard, "M0007"), 0);
        Check.due("0007 is 7", yard.says(0, 7, 0, 0), true);
        Check.due("a fifth digit", Check.fitText(yard, "M00007"), -7);
        Check.due("a fifth digit of the first year", Check.fitText(yard, "Y12345-1"), -7);
        Check.due("a fifth digit of the second year", Check.fitText(yard, "Y1-12345"), -9);
        Check.due("a fifth digit in brackets", Check.fitText(yard, "(M12345)"), -8);
        Check.due("four digits", Check.fitText(yard, "Y9998-9999"), 1);
        Check.due("9999", yard.says(1, 0, 9999, 0), true);
        Check.due("9998", yard.says(1, 0, 9998, 0), true);
        Check.due("9997", yard.says(1, 0, 9997, 0), false);
        Check.due("10000", yard.says(1, 0, 10000, 0), false);
        Check.due("M9999", Check.fitText(yard, "M9999"), 2);
        Check.due("model 9999", yard.says(2, 9999, 0, 0), true);
    }

    private static void fitLimit() {
        BreakersYard yard = new BreakersYard();
        for (int number = 0; number < 30; number++) {
            Check.due("fit", Check.fitText(yard, "M" + number), number);
        }
        Check.due("31st", Check.fitText(yard, "M30"), -1);
        Check.due("31st leaves no tape", yard.count(7), 0);
        Check.due("a text that is none, the 31st", Check.fitText(yard, "M30)"), -5);
        Check.due("fits", yard.count(1), 30);
        Check.due("first fit is as it was", yard.says(0, 0, 0, 0), true);
        Check.due("last fit is as it was", yard.says(29, 29, 0, 0), true);
        Check.dueThrow("no fit 30", INDEX, () -> yard.says(30, 0, 0, 0));
    }

    private static void says() {
        says("M1", 1, 0, 0, true);
        says("M1", -1, 0, 0, false);
        says("Y5-7", 0, 4, 0, false);
        says("Y5-7", 0, 5, 0, true);
        says("Y5-7", 0, 7, 0, true);
        says("Y5-7", 0, 8, 0, false);
        says("Y5-7", 0, -6, 0, false);
        says("Y7-5", 0, 6, 0, false);
        says("Y0-9999", 0, Integer.MIN_VALUE, 0, false);
        for (int mark = 0; mark < 8; mark++) {
            String text = "K" + (char) ('a' + mark);
            says(text, 0, 0, 1 << mark, true);
            says(text, 0, 0, ~(1 << mark), false);
            says(text, 0, 0, 1 << mark + 8, false);
            says(text, 0, 0, -1, true);
        }
        says("!M1", 1, 0, 0, false);
        says("!M1", 2, 0, 0, true);
        says("!!M1", 1, 0, 0, true);
        says("M1|M2&M3", 1, 0, 0, true);
        says("(M1|M2)&M3", 1, 0, 0, false);
        says("M1&M3|M2", 2, 0, 0, true);
        says("M3&(M2|M3)", 3, 0, 0, true);
        says("!M1&Ka", 2, 0, 0, false);
        says("!(M1&Ka)", 2, 0, 0, true);
        says("!M1|M1", 1, 0, 0, true);
        says("!(M1|M1)", 1, 0, 0, false);
        says("Ka&Kb&Kc", 0, 0, 7, true);
        says("Ka&Kb&Kc", 0, 0, 5, false);
        says("Ka|Kb|Kc", 0, 0, 4, true);
        says("Ka|Kb|Kc", 0, 0, 8, false);
        says("Ka&Kb|Kc&Kd|Ke&Kf", 0, 0, 12, true);
        says("Ka&Kb|Kc&Kd|Ke&Kf", 0, 0, 42, false);
        says("M1|M2&(M1|M2&(M1|M2&(M1|M2&(M1|M2&(M1|M2&(M1|M2&(M1|M2&(M3|M2))))))))", 2, 0, 0, true);
        says("M1|M2&(M1|M2&(M1|M2&(M1|M2&(M1|M2&(M1|M2&(M1|M2&(M1|M2&(M3|M4))))))))", 2, 0, 0, false);
        BreakersYard yard = new BreakersYard();
        Check.fitText(yard, "M1");
        Check.dueThrow("says of no fit", INDEX, () -> yard.says(1, 0, 0, 0));
        Check.dueThrow("says of fit -1", INDEX, () -> yard.says(-1, 0, 0, 0));
    }

    private static void says(String text, int model, int year, int marks, boolean want) {
        BreakersYard yard = new BreakersYard();
        Check.due("fit of " + text, Check.fitText(yard, text), 0);
        Check.due(text + " of " + model + ", " + year + ", " + marks, yard.says(0, model, year, marks), want);
    }

    // ---- Promises 9 and 10

    private static void parts() {
        BreakersYard yard = new BreakersYard();
        yard.sheet(2);
        Check.due("part of no row", yard.part(0, 0, 0), -1);
        Check.fillRow(yard, 0, 0, 0, 0, -1, 1, 1, 0);
        Check.due("part of a row of 6", yard.part(0, 0, 0), -2);
        Check.fillRow(yard, 0, 0, 0, 0, -1, 1, 1, 0, 0);
        Check.due("part of a row of 7", yard.part(0, 0, 0), 0);
        Check.due("each model has its own numbers", yard.part(7, 0, 0), 0);
        Check.due("the next", yard.part(0, 0, 0), 1);
        Check.fillRow(yard, 0, 1, 0, 0, -1, 1, 1, 0, 0, -1, 99, 99, 99, 99);
        Check.due("more are not looked at", yard.part(0, 0, 1), 2);
        Check.fillRow(yard, 0, 1, 0, 0, -1, 1, 1, 0, 0, 0);
        Check.due("no such fit", yard.part(0, 0, 1), -3);
        Check.fitText(yard, "M1");
        Check.due("there is one now", yard.part(0, 0, 1), 3);
        Check.due("its fit", yard.told(0, 3, 7), 0);
        Check.dueThrow("part of model 8", ILLEGAL, () -> yard.part(8, 0, 0));
        Check.dueThrow("part of model -1", ILLEGAL, () -> yard.part(-1, 0, 0));
        Check.dueThrow("part of model 8 and sheet 1", ILLEGAL, () -> yard.part(8, 1, 0));
        Check.dueThrow("part of sheet 1", INDEX, () -> yard.part(0, 1, 0));
        Check.dueThrow("part of row 16", INDEX, () -> yard.part(0, 0, 16));
        Check.dueThrow("part of row -1", INDEX, () -> yard.part(0, 0, -1));
    }

    private static void partBounds() {
        long[] fine = {0, 50, -1, 100, 1000, 0, 500, -1};
        long[][] lasts = {{0, 5}, {0, 99}, {-1, 0}, {1, 240}, {1, 200000}, {0, 3}, {0, 100000}, {-1, 0}};
        for (int what = 0; what < 8; what++) {
            BreakersYard yard = new BreakersYard();
            Check.fitText(yard, "M1");
            Check.makePart(yard, 0, fine);
            partOf(yard, fine, what, lasts[what][0] - 1, -3);
            partOf(yard, fine, what, lasts[what][1] + (what == 2 ? 2 : 1), -3);
            partOf(yard, fine, what, Long.MIN_VALUE, -3);
            partOf(yard, fine, what, Long.MAX_VALUE, -3);
            partOf(yard, fine, what, lasts[what][0] + (1L << 32), -3);
            partOf(yard, fine, what, lasts[what][0], 1);
            Check.due("told first " + what, yard.told(0, 1, what), lasts[what][0]);
            partOf(yard, fine, what, lasts[what][1], 2);
            Check.due("told last " + what, yard.told(0, 2, what), lasts[what][1]);
        }
    }

    private static void partOf(BreakersYard yard, long[] fine, int what, long v, int want) {
        long[] numbers = fine.clone();
        numbers[what] = v;
        Check.due("part with " + what + " of " + v, Check.makePart(yard, 0, numbers), want);
    }

    private static void partShells() {
        BreakersYard yard = new BreakersYard();
        Check.due("ahead of itself", Check.makePart(yard, 0, 0, 1, 0, 1, 1, 0, 0), -3);
        Check.due("a shell", Check.makePart(yard, 0, SHELL, 1, -1, 1, 1, 0, 0), 0);
        Check.due("a second shell", Check.makePart(yard, 0, SHELL, 1, -1, 1, 1, 0, 0), -4);
        Check.due("a shell ahead", Check.makePart(yard, 0, PLAIN, 1, 0, 1, 1, 0, 0), -4);
        Check.due("beyond comes first", Check.makePart(yard, 0, SHELL, 100, -1, 1, 1, 0, 0), -3);
        Check.due("another's ahead", Check.makePart(yard, 1, PLAIN, 1, 0, 1, 1, 0, 0), -3);
        Check.due("another's shell", Check.makePart(yard, 1, SHELL, 1, -1, 1, 1, 0, 0), 0);
        Check.due("a shell may have one ahead", partBehindShell(), 1);
    }

    private static int partBehindShell() {
        BreakersYard yard = new BreakersYard();
        Check.plainPart(yard, 0, PLAIN, 1, 1);
        return Check.makePart(yard, 0, SHELL, 1, 0, 1, 1, 0, 0);
    }

    private static void partLimit() {
        BreakersYard yard = new BreakersYard();
        Check.plainPart(yard, 0, SHELL, 1, 1);
        for (int number = 1; number < 24; number++) {
            Check.due("part", Check.plainPart(yard, 0, PLAIN, 1, 1), number);
        }
        Check.due("25th", Check.plainPart(yard, 0, PLAIN, 1, 1), -5);
        Check.due("25th, a second shell", Check.plainPart(yard, 0, SHELL, 1, 1), -4);
        Check.due("25th, beyond", Check.plainPart(yard, 0, PLAIN, 100, 1), -3);
        Check.due("25th, behind the 24th", Check.makePart(yard, 0, 0, 1, 23, 1, 1, 0, 0), -5);
        Check.due("all 24 are on", about(yard, yard.car(0, 0, 0, 0), 3), (1 << 24) - 1);
        Check.due("all lack", about(yard, yard.car(0, 0, 0, (1 << 24) - 1), 3), 0);
        Check.dueThrow("25th lacks", ILLEGAL, () -> yard.car(0, 0, 0, 1 << 24));
    }

    private static int about(BreakersYard yard, int car, int what) {
        return yard.about(car, what);
    }

    private static void told() {
        BreakersYard yard = new BreakersYard();
        Check.fitText(yard, "M1");
        Check.fitText(yard, "M2");
        Check.plainPart(yard, 3, PLAIN, 1, 1);
        Check.makePart(yard, 3, 2, 33, 0, 44, 55555, 3, 66666, 1);
        int[] want = {2, 33, 0, 44, 55555, 3, 66666, 1};
        for (int what = 0; what < 8; what++) {
            Check.due("told " + what, yard.told(3, 1, what), want[what]);
        }
        Check.due("without a fit", yard.told(3, 0, 7), -1);
        Check.dueThrow("told of part 2", MISSING, () -> yard.told(3, 2, 0));
        Check.dueThrow("told of part -1", MISSING, () -> yard.told(3, -1, 0));
        Check.dueThrow("told of model 8", MISSING, () -> yard.told(8, 0, 0));
        Check.dueThrow("told of model -1", MISSING, () -> yard.told(-1, 0, 0));
        Check.dueThrow("told what 8", ILLEGAL, () -> yard.told(3, 0, 8));
        Check.dueThrow("told what -1", ILLEGAL, () -> yard.told(3, 0, -1));
        Check.dueThrow("told what 8 of no part", MISSING, () -> yard.told(3, 2, 8));
    }

    // ---- Promises 11 to 14

    private static void cars() {
        BreakersYard yard = new BreakersYard();
        Check.dueThrow("car of no parts", ILLEGAL, () -> yard.car(0, 0, 0, 0));
        Check.plainPart(yard, 0, PLAIN, 1, 1);
        Check.plainPart(yard, 0, PLAIN, 2, 1);
        Check.dueThrow("model 8", ILLEGAL, () -> yard.car(8, 0, 0, 0));
        Check.dueThrow("model -1", ILLEGAL, () -> yard.car(-1, 0, 0, 0));
        Check.dueThrow("year -1", ILLEGAL, () -> yard.car(0, -1, 0, 0));
        Check.dueThrow("year 10000", ILLEGAL, () -> yard.car(0, 10000, 0, 0));
        Check.dueThrow("marks -1", ILLEGAL, () -> yard.car(0, 0, -1, 0));
        Check.dueThrow("marks 256", ILLEGAL, () -> yard.car(0, 0, 256, 0));
        Check.dueThrow("lacks part 2", ILLEGAL, () -> yard.car(0, 0, 0, 4));
        Check.dueThrow("lacks all", ILLEGAL, () -> yard.car(0, 0, 0, -1));
        Check.dueThrow("lacks the highest", ILLEGAL, () -> yard.car(0, 0, 0, Integer.MIN_VALUE));
        Check.due("no car came", yard.count(2), 0);
        Check.due("first", yard.car(0, 0, 0, 0), 0);
        Check.due("second", yard.car(0, 9999, 255, 2), 1);
        Check.due("third", yard.car(0, 9999, 255, 3), 2);
        Check.due("on the second", yard.about(1, 3), 1);
        // A later part is none of a car's that is there already.
        Check.plainPart(yard, 0, PLAIN, 3, 1);
        Check.due("on the first", yard.about(0, 3), 3);
        Check.dueThrow("later part", MISSING, () -> yard.hinders(0, 2));
        Check.due("fourth", yard.car(0, 0, 0, 4), 3);
        Check.due("later part lacks", yard.hinders(3, 2), 2);
        Check.due("came", yard.grams(0, 0), 100 * (2 + 1 + 0 + 2));
    }

    private static void carLimit() {
        BreakersYard yard = new BreakersYard();
        Check.plainPart(yard, 0, PLAIN, 1, 1);
        for (int number = 0; number < 40; number++) {
            Check.due("car", yard.car(0, 0, 0, 0), number);
        }
        yard.drain(0);
        Check.due("41st", yard.car(0, 0, 0, 0), -1);
        Check.due("it is not there", yard.count(2), 40);
        Check.due("it did nothing", yard.count(6), 1);
        Check.due("it weighs nothing", yard.grams(0, 0), 4000);
        Check.dueThrow("41st of no year", ILLEGAL, () -> yard.car(0, -1, 0, 0));
        Check.due("40th", yard.about(39, 3), 1);
    }

    private static void about() {
        BreakersYard yard = new BreakersYard();
        for (int i = 0; i < 3; i++) {
            Check.plainPart(yard, 5, PLAIN, i, 1);
        }
        yard.day(17);
        yard.car(5, 1987, 130, 2);
        int[] want = {5, 1987, 130, 5, 0, 0, 0, 17};
        for (int what = 0; what < 8; what++) {
            Check.due("about " + what, yard.about(0, what), want[what]);
        }
        yard.drain(0);
        Check.due("drained", yard.about(0, 4), 1);
        Check.due("not ended", yard.about(0, 5), 0);
        yard.papers(0);
        Check.due("ended", yard.about(0, 5), 1);
        yard.take(0, 0);
        Check.due("on", yard.about(0, 3), 4);
        Check.due("not pressed", yard.about(0, 6), 0);
        yard.press(0);
        Check.due("pressed", yard.about(0, 6), 1);
        Check.due("gone", yard.about(0, 3), 0);
        Check.due("still drained", yard.about(0, 4), 1);
        yard.day(1);
        Check.due("came", yard.about(0, 7), 17);
        Check.dueThrow("about 8", ILLEGAL, () -> yard.about(0, 8));
        Check.dueThrow("about -1", ILLEGAL, () -> yard.about(0, -1));
        Check.dueThrow("about car 1", MISSING, () -> yard.about(1, 0));
        Check.dueThrow("about car -1", MISSING, () -> yard.about(-1, 0));
        Check.dueThrow("about 8 of car 1", MISSING, () -> yard.about(1, 8));
    }

    private static void drains() {
        BreakersYard yard = new BreakersYard();
        Check.plainPart(yard, 0, PLAIN, 1, 1);
        yard.car(0, 0, 0, 0);
        yard.car(0, 0, 0, 0);
        Check.due("drain", yard.drain(0), 1);
        Check.due("drain again", yard.drain(0), 0);
        Check.due("one act", yard.count(6), 1);
        Check.due("the other is not", yard.about(1, 4), 0);
        yard.papers(0);
        yard.press(0);
        Check.due("drain a hull", yard.drain(0), 0);
        Check.dueThrow("drain car 2", MISSING, () -> yard.drain(2));
        Check.dueThrow("drain car -1", MISSING, () -> yard.drain(-1));
    }

    private static void papers() {
        BreakersYard yard = new BreakersYard();
        Check.plainPart(yard, 0, PLAIN, 1, 1);
        yard.car(0, 0, 0, 0);
        yard.car(0, 0, 0, 0);
        Check.due("papers", yard.papers(0), 1);
        Check.due("papers again", yard.papers(0), 0);
        Check.due("one act", yard.count(6), 1);
        Check.due("the other's have not", yard.about(1, 5), 0);
        yard.drain(0);
        yard.press(0);
        Check.due("papers of a hull", yard.papers(0), 0);
        Check.dueThrow("papers of car 2", MISSING, () -> yard.papers(2));
        Check.dueThrow("papers of car -1", MISSING, () -> yard.papers(-1));
    }

    // ---- Promises 15 to 17

    /** Parts 0 plain, 1 wet, 2 danger, 3 shell behind 0, 4 behind 1. */
    private static BreakersYard mixedYard() {
        BreakersYard yard = new BreakersYard();
        Check.makePart(yard, 0, PLAIN, 0, -1, 10, 1, 0, 100);
        Check.makePart(yard, 0, WET, 1, -1, 10, 20, 1, 200);
        Check.makePart(yard, 0, DANGER, 2, -1, 10, 300, 2, 300);
        Check.makePart(yard, 0, SHELL, 3, 0, 10, 4000, 3, 400);
        Check.makePart(yard, 0, PLAIN, 4, 1, 10, 50000, 0, 500);
        return yard;
    }

    private static void hindrances() {
        BreakersYard yard = mixedYard();
        yard.car(0, 0, 0, 0);
        hinders(yard, 0, 0, 4, 4, 3, 3);
        yard.drain(0);
        hinders(yard, 0, 0, 0, 0, 3, 3);
        yard.take(0, 0);
        hinders(yard, 0, 2, 0, 0, 5, 3);
        yard.take(0, 1);
        hinders(yard, 0, 2, 2, 0, 5, 0);
        yard.take(0, 2);
        hinders(yard, 0, 2, 2, 2, 5, 0);
        yard.take(0, 4);
        hinders(yard, 0, 2, 2, 2, 0, 2);
        yard.papers(0);
        yard.press(0);
        hinders(yard, 0, 1, 1, 1, 1, 1);
        yard.car(0, 0, 0, 2);
        hinders(yard, 1, 0, 2, 4, 3, 0);
        Check.dueThrow("part 5", MISSING, () -> yard.hinders(0, 5));
        Check.dueThrow("part -1", MISSING, () -> yard.hinders(0, -1));
        Check.dueThrow("car 2", MISSING, () -> yard.hinders(2, 0));
        Check.dueThrow("car -1", MISSING, () -> yard.hinders(-1, 0));
        Check.dueThrow("take part 5", MISSING, () -> yard.take(0, 5));
        Check.dueThrow("take part -1", MISSING, () -> yard.take(0, -1));
        Check.dueThrow("take of car 2", MISSING, () -> yard.take(2, 0));
        BreakersYard wetBehindWet = new BreakersYard();
        Check.makePart(wetBehindWet, 0, WET, 1, -1, 1, 1, 0, 1);
        Check.makePart(wetBehindWet, 0, WET, 1, 0, 1, 1, 0, 1);
        wetBehindWet.car(0, 0, 0, 1);
        Check.due("an ahead that lacks does not hinder", wetBehindWet.hinders(0, 1), 4);
    }

    private static void hinders(BreakersYard yard, int car, int... want) {
        for (int part = 0; part < want.length; part++) {
            Check.due("hinders " + part, yard.hinders(car, part), want[part]);
        }
    }

    /** A yard with 20 parts a car, as many cars as it is told, and the parts of the first 60 on the shelf. */
    private static BreakersYard fullShelf(int cars) {
        BreakersYard yard = new BreakersYard();
        for (int part = 0; part < 20; part++) {
            Check.plainPart(yard, 0, PLAIN, part, 100);
        }
        for (int car = 0; car < cars; car++) {
            yard.car(0, 0, 0, 0);
        }
        for (int item = 0; item < 60; item++) {
            Check.due("take", yard.take(item / 20, item % 20), item);
        }
        return yard;
    }

    private static void hindrancesOfFullShelf() {
        BreakersYard yard = fullShelf(4);
        Check.due("60 on the shelf", yard.count(3), 60);
        Check.due("full", yard.hinders(3, 0), 6);
        Check.due("take to a full shelf", yard.take(3, 0), -6);
        Check.due("it is still on", yard.about(3, 3), (1 << 20) - 1);
        Check.due("not on comes first", yard.hinders(0, 0), 2);
        yard.sell(7, 0);
        Check.due("room", yard.hinders(3, 0), 0);
        Check.due("take to it", yard.take(3, 0), 60);
        Check.due("full again", yard.hinders(3, 1), 6);
        Check.due("undo makes room", yard.undo(), 3);
        Check.due("room again", yard.hinders(3, 1), 0);
    }

    private static void hindrancesOfAllItems() {
        BreakersYard yard = new BreakersYard();
        for (int part = 0; part < 2; part++) {
            Check.plainPart(yard, 0, PLAIN, part, 100);
        }
        yard.car(0, 0, 0, 0);
        for (int item = 0; item < 200; item++) {
            Check.due("take", yard.take(0, 0), item);
            yard.undo();
        }
        // An object is good for 512 calls alone, but what it must do at 400 items can be asked no other way.
        for (int item = 200; item < 400; item++) {
            Check.due("take on", yard.take(0, 0), item);
            yard.undo();
        }
        Check.due("400 in all", yard.count(4), 400);
        Check.due("hinders", yard.hinders(0, 0), 7);
        Check.due("take", yard.take(0, 0), -7);
        Check.due("none on the shelf", yard.count(3), 0);
        Check.due("the last", yard.item(399, 2), 3);
        Check.dueThrow("item 400", MISSING, () -> yard.item(400, 2));
    }

    private static void takes() {
        BreakersYard yard = mixedYard();
        yard.car(0, 0, 0, 0);
        Check.due("take the wet", yard.take(0, 1), -4);
        Check.due("take the shell", yard.take(0, 3), -3);
        Check.due("nothing was done", yard.count(6), 0);
        Check.due("take", yard.take(0, 0), 0);
        Check.due("take again", yard.take(0, 0), -2);
        Check.due("take the shell again", yard.take(0, 3), -5);
        Check.due("on", yard.about(0, 3), 30);
        Check.due("on the shelf", yard.count(3), 1);
        Check.due("where", yard.item(0, 2), 0);
        yard.drain(0);
        yard.papers(0);
        Check.due("next", yard.take(0, 2), 1);
        yard.press(0);
        Check.due("take of a hull", yard.take(0, 1), -1);
    }

    private static void presses() {
        BreakersYard yard = mixedYard();
        yard.car(0, 0, 0, 0);
        yard.car(0, 0, 0, 31);
        Check.due("undrained", yard.press(0), -2);
        yard.drain(0);
        Check.due("papers", yard.press(0), -3);
        yard.papers(0);
        Check.due("danger", yard.press(0), -4);
        Check.due("nothing was done", yard.count(6), 2);
        yard.take(0, 2);
        yard.take(0, 0);
        Check.due("pressed", yard.press(0), 20 + 4000 + 50000);
        Check.due("none to undo", yard.count(6), 0);
        Check.due("again", yard.press(0), -1);
        Check.due("pressed grams", yard.grams(3, 4), 4000);
        Check.due("pressed wet", yard.grams(1, 4), 20);
        Check.due("none on", yard.grams(3, 1), 0);
        yard.papers(1);
        Check.due("undrained with papers", yard.press(1), -2);
        yard.drain(1);
        Check.due("an empty one", yard.press(1), 0);
        Check.due("an empty one is pressed", yard.about(1, 6), 1);
        Check.due("none to undo of it", yard.count(6), 0);
        Check.dueThrow("press car 2", MISSING, () -> yard.press(2));
        Check.dueThrow("press car -1", MISSING, () -> yard.press(-1));
    }

    // ---- Promises 18 and 19

    private static void days() {
        BreakersYard yard = new BreakersYard();
        Check.due("0 days", yard.day(0), 0);
        Check.due("1 day", yard.day(1), 1);
        Check.due("10,000 days", yard.day(10000), 10001);
        Check.dueThrow("-1 days", ILLEGAL, () -> yard.day(-1));
        Check.dueThrow("10,001 days", ILLEGAL, () -> yard.day(10001));
        Check.dueThrow("all days", ILLEGAL, () -> yard.day(Integer.MAX_VALUE));
        for (int i = 0; i < 98; i++) {
            yard.day(10000);
        }
        Check.due("near the end", yard.day(9998), 999999);
        Check.dueThrow("above", STATE, () -> yard.day(2));
        Check.dueThrow("far above", ILLEGAL, () -> yard.day(10001));
        Check.due("as it was", yard.count(5), 999999);
        Check.due("the end", yard.day(1), 1000000);
        Check.dueThrow("above the end", STATE, () -> yard.day(1));
        Check.due("0 days at the end", yard.day(0), 1000000);
    }

    private static void lates() {
        BreakersYard yard = new BreakersYard();
        Check.plainPart(yard, 0, PLAIN, 1, 1);
        yard.car(0, 0, 0, 0);
        yard.car(0, 0, 0, 0);
        yard.day(1);
        yard.car(0, 0, 0, 0);
        yard.day(3);
        Check.due("4 days", yard.late(0, 0), -1);
        yard.day(1);
        Check.due("5 days", yard.late(0, 0), 0);
        Check.due("second", yard.late(0, 1), 1);
        Check.due("third is not yet", yard.late(0, 2), -1);
        yard.drain(0);
        Check.due("drained", yard.late(0, 0), 1);
        Check.due("no second", yard.late(0, 1), -1);
        yard.undo();
        Check.due("drained no more", yard.late(0, 0), 0);
        yard.drain(0);
        yard.papers(0);
        yard.day(84);
        Check.due("89 days", yard.late(1, 0), -1);
        yard.day(1);
        Check.due("90 days", yard.late(1, 0), 0);
        Check.due("90 days, second", yard.late(1, 1), 1);
        Check.due("90 days, third", yard.late(1, 2), -1);
        yard.press(0);
        Check.due("pressed", yard.late(1, 0), 1);
        Check.due("undrained", yard.late(0, 1), 2);
        Check.due("k of -1", yard.late(1, -1), -1);
        Check.due("k of all", yard.late(1, Integer.MAX_VALUE), -1);
        Check.dueThrow("late 2", ILLEGAL, () -> yard.late(2, 0));
        Check.dueThrow("late -1", ILLEGAL, () -> yard.late(-1, 0));
    }

    // ---- Promises 20 to 22

    private static void items() {
        BreakersYard yard = new BreakersYard();
        for (int part = 0; part < 4; part++) {
            Check.plainPart(yard, 0, PLAIN, part, 800);
        }
        yard.car(0, 0, 0, 15);
        yard.car(0, 0, 0, 0);
        yard.day(7);
        yard.take(1, 2);
        item(yard, 0, 1, 2, 0, 800, 7);
        yard.day(30);
        item(yard, 0, 1, 2, 0, 700, 7);
        yard.sell(0, 0);
        yard.day(2);
        item(yard, 0, 1, 2, 1, 700, 37);
        yard.back(0, 0);
        item(yard, 0, 1, 2, 0, 800, 39);
        yard.sell(0, 0);
        yard.day(3);
        yard.back(0, 1);
        item(yard, 0, 1, 2, 2, 0, 42);
        yard.day(1);
        yard.take(1, 0);
        yard.undo();
        item(yard, 1, 1, 0, 3, 0, 43);
        Check.dueThrow("item 2", MISSING, () -> yard.item(2, 0));
        Check.dueThrow("item -1", MISSING, () -> yard.item(-1, 0));
        Check.dueThrow("what 5", ILLEGAL, () -> yard.item(0, 5));
        Check.dueThrow("what -1", ILLEGAL, () -> yard.item(0, -1));
        Check.dueThrow("what 5 of item 2", MISSING, () -> yard.item(2, 5));
    }

    private static void item(BreakersYard yard, int item, int... want) {
        for (int what = 0; what < want.length; what++) {
            Check.due("item " + item + " " + what, yard.item(item, what), want[what]);
        }
    }

    private static void values() {
        BreakersYard yard = new BreakersYard();
        Check.plainPart(yard, 0, PLAIN, 0, 100000);
        Check.plainPart(yard, 0, CORE, 1, 9999);
        Check.plainPart(yard, 0, PAIR, 2, 9999);
        Check.plainPart(yard, 0, PLAIN, 3, 15);
        yard.car(0, 0, 0, 0);
        for (int part = 0; part < 4; part++) {
            yard.take(0, part);
        }
        int[] value = {100000, 4999, 9999, 15};
        for (int months = 0; months <= 26; months++) {
            for (int item = 0; item < 4; item++) {
                Check.due("value after " + months, yard.item(item, 3), value[item]);
                value[item] -= months < 24 ? value[item] / 8 : 0;
            }
            yard.day(29);
            Check.due("a day before the next", yard.item(3, 3), months == 0 ? 15 : yard.item(3, 3));
            yard.day(1);
        }
        yard.day(10000);
        Check.due("never below", yard.item(0, 3), value[0]);
    }

    private static void finds() {
        BreakersYard yard = new BreakersYard();
        Check.fitText(yard, "M1&Y1990-1999&Ka");
        Check.plainPart(yard, 0, PLAIN, 5, 100);
        Check.makePart(yard, 0, PLAIN, 5, -1, 10, 100, 0, 100, 0);
        Check.plainPart(yard, 0, PLAIN, 6, 100);
        Check.plainPart(yard, 0, DANGER, 99, 100);
        yard.car(0, 1950, 128, 0);
        yard.drain(0);
        for (int part = 0; part < 4; part++) {
            Check.due("nothing before", yard.find(part == 3 ? 99 : 5, 7, 0, 0), 0);
            yard.take(0, part);
        }
        Check.due("without a fit: its model, any year", yard.find(5, 0, -5, -1), 1);
        Check.due("found", yard.found(0), 0);
        Check.due("with a fit", yard.find(5, 1, 1990, 1), 1);
        Check.due("found with it", yard.found(0), 1);
        Check.due("not of that year", yard.find(5, 1, 1989, 1), 0);
        Check.due("not of those marks", yard.find(5, 1, 1990, 254), 0);
        Check.due("the lowest eight marks", yard.find(5, 1, 1990, 256), 0);
        Check.due("not of that model", yard.find(5, 2, 1990, 1), 0);
        Check.due("another name", yard.find(6, 0, 0, 0), 1);
        Check.due("dangers too", yard.find(99, 0, 0, 0), 1);
        Check.due("name 0", yard.find(0, 0, 0, 0), 0);
        Check.due("any model", yard.find(5, Integer.MIN_VALUE, 0, 0), 0);
        yard.sell(0, 0);
        Check.due("sold", yard.find(5, 0, 0, 0), 0);
        yard.back(0, 0);
        Check.due("back", yard.find(5, 0, 0, 0), 1);
        yard.sell(0, 0);
        yard.back(0, 1);
        Check.due("bad", yard.find(5, 0, 0, 0), 0);
        yard.car(0, 0, 0, 0);
        yard.take(1, 2);
        Check.due("two", yard.find(6, 0, 0, 0), 2);
        yard.undo();
        Check.due("undone", yard.find(6, 0, 0, 0), 1);
        Check.dueThrow("name -1", ILLEGAL, () -> yard.find(-1, 0, 0, 0));
        Check.dueThrow("name 100", ILLEGAL, () -> yard.find(100, 0, 0, 0));
        Check.due("the latest that was one", yard.found(0), 2);
    }

    private static void findOrder() {
        BreakersYard yard = new BreakersYard();
        Check.fitText(yard, "Y0-9999");
        int[] prices = {500, 300, 500, 100};
        for (int model = 0; model < 2; model++) {
            for (int price : prices) {
                Check.makePart(yard, model, PLAIN, 5, -1, 10, 100, 0, price, 0);
            }
        }
        yard.car(0, 0, 0, 0);
        yard.car(1, 0, 0, 0);
        for (int part = 0; part < 4; part++) {
            yard.take(0, part);
            yard.take(1, part);
        }
        // Items 0, 2, 4, 6 are of model 0, the others of model 1.
        find(yard, 1, 7, 3, 1, 5, 6, 2, 0, 4);
        find(yard, 0, 6, 2, 0, 4, 7, 3, 1, 5);
        find(yard, 2, 6, 7, 2, 3, 0, 1, 4, 5);
        yard.sell(0, 0);
        yard.day(1000);
        yard.car(0, 0, 0, 0);
        yard.take(2, 1);
        find(yard, 0, 6, 2, 4, 8, 7, 3, 1, 5);
    }

    private static void find(BreakersYard yard, int model, int... want) {
        Check.due("find", yard.find(5, model, 0, 0), want.length);
        for (int k = 0; k < want.length; k++) {
            Check.due("found " + k + " of model " + model, yard.found(k), want[k]);
        }
        Check.due("found no more", yard.found(want.length), -1);
    }

    private static void founds() {
        BreakersYard yard = fullShelf(3);
        Check.due("find", yard.find(3, 0, 0, 0), 3);
        yard.sell(3, 0);
        yard.day(1);
        Check.due("as it was", yard.found(0), 3);
        Check.due("as it was, last", yard.found(2), 43);
        Check.due("no fourth", yard.found(3), -1);
        Check.due("k of -1", yard.found(-1), -1);
        Check.due("k of all", yard.found(Integer.MAX_VALUE), -1);
        Check.due("find again", yard.find(3, 0, 0, 0), 2);
        Check.due("first", yard.found(0), 23);
        Check.due("no third", yard.found(2), -1);
        Check.due("find none", yard.find(50, 0, 0, 0), 0);
        Check.due("none", yard.found(0), -1);
        BreakersYard same = new BreakersYard();
        for (int part = 0; part < 20; part++) {
            Check.plainPart(same, 0, PLAIN, 7, 1000 - part);
        }
        for (int item = 0; item < 60; item++) {
            if (item % 20 == 0) {
                same.car(0, 0, 0, 0);
            }
            same.take(item / 20, item % 20);
        }
        Check.due("find all of a full shelf", same.find(7, 0, 0, 0), 60);
        for (int k = 0; k < 60; k++) {
            Check.due("found " + k, same.found(k), 19 - k / 3 + k % 3 * 20);
        }
        Check.due("no 61st", same.found(60), -1);
    }

    // ---- Promises 23, 24 and 29

    private static void sells() {
        BreakersYard yard = new BreakersYard();
        Check.plainPart(yard, 0, PLAIN, 0, 801);
        Check.plainPart(yard, 0, CORE, 1, 801);
        Check.plainPart(yard, 0, WET, 2, 0);
        yard.car(0, 0, 0, 0);
        yard.drain(0);
        yard.take(0, 0);
        yard.take(0, 1);
        yard.take(0, 2);
        yard.day(30);
        Check.due("sell", yard.sell(0, 0), 701);
        Check.due("sell a core to the trade", yard.sell(1, 1), 350);
        Check.due("sell for nothing", yard.sell(2, 0), 0);
        Check.due("sold for nothing", yard.item(2, 2), 1);
        Check.due("sell again", yard.sell(0, 0), -1);
        Check.due("shelf", yard.count(3), 0);
        yard.car(0, 0, 0, 0);
        yard.take(1, 0);
        yard.undo();
        Check.due("sell an undone one", yard.sell(3, 0), -1);
        yard.back(0, 1);
        Check.due("sell a bad one", yard.sell(0, 0), -1);
        Check.dueThrow("trade 2", ILLEGAL, () -> yard.sell(0, 2));
        Check.dueThrow("trade -1", ILLEGAL, () -> yard.sell(0, -1));
        Check.dueThrow("item 4", MISSING, () -> yard.sell(4, 0));
        Check.dueThrow("item -1", MISSING, () -> yard.sell(-1, 0));
        Check.dueThrow("item 4, trade 2", MISSING, () -> yard.sell(4, 2));
    }

    private static void pairs() {
        BreakersYard yard = new BreakersYard();
        Check.plainPart(yard, 0, PLAIN, 5, 70);
        Check.plainPart(yard, 0, PAIR, 5, 101);
        Check.plainPart(yard, 0, PAIR, 6, 203);
        Check.plainPart(yard, 0, PAIR, 5, 407);
        Check.plainPart(yard, 0, PAIR, 5, 809);
        yard.car(0, 0, 0, 0);
        yard.car(0, 0, 0, 0);
        // Items 0 to 4 are the first car's parts, but 4 ahead of 3; 5 to 8 the second's, without part 4.
        int[] order = {0, 1, 2, 4, 3};
        for (int part : order) {
            yard.take(0, part);
        }
        for (int part = 0; part < 4; part++) {
            yard.take(1, part);
        }
        Check.due("sell with the least", yard.sell(4, 0), 101 + 407);
        Check.due("the least is sold", yard.item(1, 2), 1);
        Check.due("for its value", yard.item(1, 3), 101);
        Check.due("the next is not", yard.item(3, 2), 0);
        Check.due("sell alone", yard.sell(3, 0), 404);
        Check.due("half was paid", yard.item(3, 3), 404);
        Check.due("another name is alone", yard.sell(2, 0), 101);
        Check.due("the other car's are a pair", yard.sell(6, 1), 101 + 407);
        Check.due("no pair is sold with none", yard.sell(0, 0), 70);
        Check.due("shelf", yard.count(3), 2);
        Check.due("back, one of a pair", yard.back(8, 0), 407);
        Check.due("the other one stays sold", yard.item(6, 2), 1);
        yard.day(30);
        Check.due("alone, a month later", yard.sell(8, 0), (407 - 407 / 8) / 2);
        Check.due("till", yard.till(), 508 + 404 + 101 + 508 + 70 - 407 + 178);
        pairOfDays();
    }

    private static void pairOfDays() {
        BreakersYard yard = new BreakersYard();
        Check.plainPart(yard, 0, PAIR, 5, 800);
        Check.plainPart(yard, 0, PAIR, 5, 800);
        yard.car(0, 0, 0, 0);
        yard.take(0, 0);
        yard.day(30);
        yard.take(0, 1);
        Check.due("each for its own value", yard.sell(1, 0), 1500);
        Check.due("the older", yard.item(0, 3), 700);
        Check.due("the younger", yard.item(1, 3), 800);
        Check.due("both sold today", yard.item(0, 4), 30);
        Check.due("till", yard.till(), 1500);
    }

    private static void dangers() {
        BreakersYard yard = new BreakersYard();
        Check.plainPart(yard, 0, DANGER, 5, 800);
        yard.car(0, 0, 0, 0);
        yard.drain(0);
        yard.take(0, 0);
        Check.due("not for the trade", yard.sell(0, 0), -2);
        Check.due("nothing was done", yard.count(6), 2);
        Check.due("for the trade", yard.sell(0, 1), 800);
        Check.due("sold comes first", yard.sell(0, 0), -1);
    }

    private static void backs() {
        BreakersYard yard = new BreakersYard();
        Check.plainPart(yard, 0, PLAIN, 5, 800);
        Check.plainPart(yard, 0, PLAIN, 5, 800);
        yard.car(0, 0, 0, 0);
        yard.take(0, 0);
        Check.due("not sold", yard.back(0, 0), -1);
        yard.day(60);
        yard.sell(0, 0);
        yard.day(30);
        Check.due("30 days", yard.back(0, 0), 613);
        Check.due("on the shelf from this day", yard.item(0, 4), 90);
        Check.due("its value is whole again", yard.item(0, 3), 800);
        Check.due("back again", yard.back(0, 0), -1);
        yard.sell(0, 0);
        yard.day(31);
        Check.due("31 days", yard.back(0, 0), -2);
        Check.due("31 days, bad", yard.back(0, 1), -2);
        Check.due("still sold", yard.item(0, 2), 1);
        Check.due("still paid", yard.till(), 800);
        yard.take(0, 1);
        yard.sell(1, 0);
        Check.due("bad", yard.back(1, 1), 800);
        Check.due("it is bad", yard.item(1, 2), 2);
        Check.due("bad again", yard.back(1, 1), -1);
        Check.dueThrow("bad 2", ILLEGAL, () -> yard.back(0, 2));
        Check.dueThrow("bad -1", ILLEGAL, () -> yard.back(0, -1));
        Check.dueThrow("item 2", MISSING, () -> yard.back(2, 0));
        Check.dueThrow("item -1", MISSING, () -> yard.back(-1, 0));
        Check.dueThrow("item 2, bad 2", MISSING, () -> yard.back(2, 2));
    }

    private static void backToFullShelf() {
        BreakersYard yard = fullShelf(4);
        yard.sell(0, 0);
        yard.sell(1, 0);
        yard.take(3, 0);
        yard.take(3, 1);
        Check.due("full", yard.count(3), 60);
        Check.due("no room", yard.back(0, 0), -3);
        Check.due("nothing was done", yard.count(6), 2);
        Check.due("bad needs none", yard.back(0, 1), 100);
        Check.due("till", yard.till(), 100);
        yard.sell(5, 0);
        Check.due("room", yard.back(1, 0), 100);
        yard.day(31);
        Check.due("too late comes first", yard.back(5, 0), -2);
    }

    private static void tills() {
        BreakersYard yard = new BreakersYard();
        Check.plainPart(yard, 0, PLAIN, 5, 100000);
        yard.car(0, 0, 0, 0);
        yard.take(0, 0);
        for (int time = 0; time < 3; time++) {
            yard.sell(0, 0);
            Check.due("till", yard.till(), 100000);
            yard.back(0, 0);
            Check.due("till after", yard.till(), 0);
        }
    }

    // ---- Promises 25 and 26

    private static void best(BreakersYard yard, int car, int wage, int bits, int worth) {
        Check.due("best at " + wage, yard.best(car, wage), bits);
        Check.due("worth at " + wage, yard.worth(car, wage), worth);
    }

    private static void bests() {
        BreakersYard yard = mixedYard();
        yard.car(0, 0, 0, 0);
        best(yard, 0, 0, 1, 100);
        yard.drain(0);
        best(yard, 0, 0, 1 + 2 + 4 + 16, 1100);
        best(yard, 0, 9, 1 + 2 + 4 + 16, 1100 - 360);
        best(yard, 0, 10, 2 + 4 + 16, 1000 - 300);
        best(yard, 0, 29, 2 + 4 + 16, 1000 - 870);
        best(yard, 0, 30, 2 + 16, 100);
        best(yard, 0, 34, 2 + 16, 20);
        best(yard, 0, 35, 0, 0);
        best(yard, 0, 1000, 0, 0);
        yard.take(0, 1);
        best(yard, 0, 40, 16, 100);
        yard.car(0, 0, 0, 2);
        best(yard, 1, 0, 1 + 16, 600);
        Check.dueThrow("wage -1", ILLEGAL, () -> yard.best(0, -1));
        Check.dueThrow("wage 1001", ILLEGAL, () -> yard.best(0, 1001));
        Check.dueThrow("car 2", MISSING, () -> yard.best(2, 0));
        Check.dueThrow("car -1", MISSING, () -> yard.best(-1, 0));
        Check.dueThrow("car 2, wage -1", MISSING, () -> yard.best(2, -1));
        yard.take(0, 2);
        yard.papers(0);
        yard.press(0);
        best(yard, 0, 0, 0, 0);
    }

    private static void bestTies() {
        BreakersYard yard = new BreakersYard();
        Check.makePart(yard, 0, PLAIN, 1, -1, 10, 1, 0, 100);
        Check.makePart(yard, 0, PLAIN, 1, 0, 10, 1, 0, 0);
        Check.makePart(yard, 0, PLAIN, 1, 1, 10, 1, 0, 300);
        Check.makePart(yard, 0, PLAIN, 1, 1, 10, 1, 0, 101);
        yard.car(0, 0, 0, 0);
        // At 10: 0 gains 0, 1 loses 100, 2 gains 200, 3 gains 1.
        best(yard, 0, 10, 15, 101);
        // At 11: -10, -110, 190, -9.
        best(yard, 0, 11, 7, 70);
        // At 13: -30, -130, 170, -29: a chain that ends in a gain.
        best(yard, 0, 13, 7, 10);
        // At 20: -100, -200, 100, -99.
        best(yard, 0, 20, 0, 0);
        BreakersYard little = new BreakersYard();
        Check.makePart(little, 0, PLAIN, 1, -1, 10, 1, 0, 100);
        Check.makePart(little, 0, PLAIN, 1, 0, 10, 1, 0, 101);
        little.car(0, 0, 0, 0);
        // At 10: 0 gains 0, and 1 behind it gains 1.
        best(little, 0, 10, 3, 1);
        BreakersYard nought = new BreakersYard();
        Check.makePart(nought, 0, PLAIN, 1, -1, 10, 1, 0, 100);
        Check.makePart(nought, 0, PLAIN, 1, -1, 20, 1, 0, 0);
        Check.makePart(nought, 0, PLAIN, 1, 1, 10, 1, 0, 300);
        nought.car(0, 0, 0, 0);
        // At 10 both the first and the chain gain 0: the fewest minutes are none.
        best(nought, 0, 10, 0, 0);
        best(nought, 0, 0, 5 + 2, 400);
    }

    private static void worths() {
        BreakersYard yard = new BreakersYard();
        Check.plainPart(yard, 0, CORE, 1, 1001);
        Check.plainPart(yard, 0, PAIR, 1, 2001);
        Check.plainPart(yard, 0, PLAIN, 1, 99);
        Check.plainPart(yard, 0, SHELL, 1, 5000);
        yard.car(0, 0, 0, 0);
        best(yard, 0, 0, 7, 500 + 1000 + 99);
        best(yard, 0, 10, 3, 500 + 1000 - 200);
        best(yard, 0, 50, 2, 500);
        yard.take(0, 0);
        yard.take(0, 1);
        yard.take(0, 2);
        best(yard, 0, 0, 0, 0);
        Check.dueThrow("wage -1", ILLEGAL, () -> yard.worth(0, -1));
        Check.dueThrow("wage 1001", ILLEGAL, () -> yard.worth(0, 1001));
        Check.dueThrow("car 1", MISSING, () -> yard.worth(1, 0));
        Check.dueThrow("car 1, wage -1", MISSING, () -> yard.worth(1, -1));
    }

    // ---- Promises 27 and 28

    private static void grams() {
        BreakersYard yard = mixedYard();
        yard.car(0, 0, 0, 1);
        yard.car(0, 0, 0, 0);
        gramsOf(yard, 0, 100001, 100001, 0, 0, 0, 0);
        gramsOf(yard, 1, 40, 40, 0, 0, 0, 0);
        gramsOf(yard, 2, 600, 600, 0, 0, 0, 0);
        gramsOf(yard, 3, 8000, 8000, 0, 0, 0, 0);
        yard.drain(0);
        yard.papers(0);
        yard.take(0, 1);
        yard.take(0, 4);
        gramsOf(yard, 0, 100001, 50001, 50000, 0, 0, 0);
        yard.undo();
        gramsOf(yard, 0, 100001, 100001, 0, 0, 0, 0);
        yard.take(0, 2);
        yard.sell(0, 0);
        yard.sell(2, 1);
        gramsOf(yard, 1, 40, 20, 0, 20, 0, 0);
        gramsOf(yard, 2, 600, 300, 0, 300, 0, 0);
        yard.back(0, 1);
        yard.back(2, 0);
        gramsOf(yard, 1, 40, 20, 0, 0, 0, 20);
        gramsOf(yard, 2, 600, 300, 300, 0, 0, 0);
        yard.press(0);
        gramsOf(yard, 0, 100001, 50001, 0, 0, 50000, 0);
        gramsOf(yard, 3, 8000, 4000, 0, 0, 4000, 0);
        Check.dueThrow("stuff 4", ILLEGAL, () -> yard.grams(4, 0));
        Check.dueThrow("stuff -1", ILLEGAL, () -> yard.grams(-1, 0));
        Check.dueThrow("what 6", ILLEGAL, () -> yard.grams(0, 6));
        Check.dueThrow("what -1", ILLEGAL, () -> yard.grams(1, -1));
    }

    private static void gramsOf(BreakersYard yard, int stuff, int... want) {
        for (int what = 0; what < 6; what++) {
            Check.due("grams " + stuff + " " + what, yard.grams(stuff, what), want[what]);
        }
    }

    private static void counts() {
        BreakersYard yard = mixedYard();
        Check.fitText(yard, "M1");
        Check.fitText(yard, "M2");
        Check.feedText(yard, "M3");
        yard.day(6);
        yard.car(0, 0, 0, 0);
        yard.car(0, 0, 0, 0);
        yard.car(0, 0, 0, 0);
        yard.take(0, 0);
        yard.take(1, 0);
        yard.sell(0, 0);
        yard.take(2, 0);
        yard.drain(0);
        yard.take(0, 1);
        yard.papers(0);
        yard.take(0, 2);
        yard.undo();
        int[] want = {1, 2, 3, 3, 5, 6, 4, 20};
        for (int what = 0; what < 8; what++) {
            Check.due("count " + what, yard.count(what), want[what]);
        }
        Check.due("count 8", yard.count(8), -1);
        Check.due("count -1", yard.count(-1), -1);
    }

    // ---- Promise 30

    private static void undos() {
        BreakersYard yard = mixedYard();
        yard.car(0, 0, 0, 0);
        yard.car(0, 0, 0, 0);
        Check.due("none yet", yard.undo(), -1);
        yard.drain(0);
        yard.papers(1);
        yard.take(0, 1);
        yard.take(0, 4);
        Check.due("take", yard.undo(), 3);
        Check.due("on", yard.about(0, 3), 31 - 2);
        Check.due("undone", yard.item(1, 2), 3);
        Check.due("take", yard.undo(), 3);
        Check.due("on", yard.about(0, 3), 31);
        Check.due("shelf", yard.count(3), 0);
        Check.due("papers", yard.undo(), 2);
        Check.due("not ended", yard.about(1, 5), 0);
        Check.due("still drained", yard.about(0, 4), 1);
        Check.due("drain", yard.undo(), 1);
        Check.due("not drained", yard.about(0, 4), 0);
        Check.due("none left", yard.undo(), -1);
        Check.due("take after", yard.take(0, 0), 2);
        Check.due("items in all", yard.count(4), 3);
        Check.due("one act", yard.count(6), 1);
    }

    private static void undoLimit() {
        BreakersYard yard = new BreakersYard();
        Check.plainPart(yard, 0, PLAIN, 1, 1);
        for (int car = 0; car < 7; car++) {
            yard.car(0, 0, 0, 0);
        }
        for (int car = 0; car < 6; car++) {
            yard.drain(car);
            yard.papers(car);
        }
        Check.due("ten acts of twelve", yard.count(6), 10);
        Check.due("latest", yard.undo(), 2);
        Check.due("nine acts", yard.count(6), 9);
        yard.take(6, 0);
        yard.drain(6);
        Check.due("ten acts again", yard.count(6), 10);
        Check.due("drain", yard.undo(), 1);
        Check.due("take", yard.undo(), 3);
        Check.due("the part is on", yard.about(6, 3), 1);
        for (int act = 0; act < 8; act++) {
            Check.due("undo", yard.undo(), act % 2 == 0 ? 1 : 2);
        }
        Check.due("no more", yard.undo(), -1);
        Check.due("too old", yard.about(0, 4), 1);
        Check.due("too old papers", yard.about(0, 5), 1);
        Check.due("too old, third", yard.about(1, 4), 1);
        Check.due("not too old", yard.about(1, 5), 0);
    }

    private static void undoForgets() {
        BreakersYard yard = mixedYard();
        yard.car(0, 0, 0, 0);
        yard.car(0, 0, 0, 31);
        yard.take(0, 0);
        yard.car(0, 0, 0, 0);
        Check.due("a car came", yard.undo(), -1);
        yard.drain(0);
        yard.day(1);
        Check.due("a day went", yard.undo(), -1);
        yard.papers(0);
        yard.sell(0, 0);
        Check.due("one was sold", yard.undo(), -1);
        yard.papers(1);
        yard.back(0, 0);
        Check.due("one came back", yard.undo(), -1);
        yard.drain(1);
        yard.press(1);
        Check.due("one was pressed", yard.undo(), -1);
        Check.due("it stays drained", yard.about(0, 4), 1);
    }

    private static void undoKept() {
        BreakersYard yard = mixedYard();
        yard.car(0, 0, 0, 0);
        yard.drain(0);
        yard.day(0);
        yard.press(0);
        yard.sell(yard.take(0, 2), 0);
        yard.back(0, 0);
        yard.take(0, 2);
        yard.drain(0);
        Check.dueThrow("no car", ILLEGAL, () -> yard.car(0, -1, 0, 0));
        Check.dueThrow("no day", ILLEGAL, () -> yard.day(-1));
        Check.due("another sheet", yard.sheet(1), 1);
        Check.plainPart(yard, 0, PLAIN, 1, 1);
        Check.due("torn", yard.tear(0, 15), 1);
        Check.fitText(yard, "M1");
        yard.find(1, 0, 0, 0);
        Check.due("two acts", yard.count(6), 2);
        Check.due("take", yard.undo(), 3);
        Check.due("drain", yard.undo(), 1);
    }
}
