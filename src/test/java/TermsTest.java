import java.util.Arrays;
import java.util.NoSuchElementException;

/** The edges that the document's Terms name, sentence by sentence; the names of the checks quote them. */
public final class TermsTest {
    private static final int PLAIN = 0;
    private static final int PAIR = 1;
    private static final int CORE = 2;
    private static final int WET = 3;
    private static final int DANGER = 4;
    private static final int SHELL = 5;
    private static final int[] FAR = {
        Integer.MIN_VALUE, Integer.MIN_VALUE + 1, -16, -2, -1, 1 << 24, Integer.MAX_VALUE};
    private static final Class<?> ILLEGAL = IllegalArgumentException.class;
    private static final Class<?> INDEX = IndexOutOfBoundsException.class;
    private static final Class<?> MISSING = NoSuchElementException.class;

    private TermsTest() {
    }

    public static void main(String[] args) {
        sheetsAndRows();
        rowsMissingAtFirst();
        widths();
        mixedWidths();
        rowsApart();
        byteThatCanStandFirst();
        byteThatCanStandLast();
        blanks();
        prefixes();
        numbers();
        marks();
        hundredBytes();
        openAtOneTime();
        fitNumbers();
        longFitsApart();
        models();
        modelsApart();
        rowLengths();
        aheads();
        shells();
        laterParts();
        laterPartsOfBest();
        hindranceOrder();
        hindranceOrderOfFullShelf();
        pressOrder();
        pressOfFirstPart();
        lates();
        fallsByMonths();
        smallValues();
        stands();
        foundOrder();
        pairPartners();
        pairPartnersGone();
        pairsAlone();
        dangers();
        backDays();
        backsOfPairs();
        wages();
        bestAheads();
        bestUndrained();
        bestChain();
        mostGrams();
        tenActs();
        actsStandAlone();
        otherActs();
        Check.end();
    }

    // ---- Terms 1

    private static void sheetsAndRows() {
        BreakersYard yard = new BreakersYard();
        yard.sheet(0);
        yard.sheet(0);
        for (int far : new int[] {2, 7, 8}) {
            noSheetOrRow(yard, far, 0);
        }
        for (int far : FAR) {
            noSheetOrRow(yard, far, 0);
            noSheetOrRow(yard, 0, far);
            noSheetOrRow(yard, 1, far);
        }
        noSheetOrRow(yard, 0, 16);
        noSheetOrRow(yard, 1, 16);
        Check.due("ROW 15 of the first is not of the second", yard.row(0, 15, 1), 1);
        Check.due("ROW 0 of the second is missing", yard.tear(1, 0), 0);
        Check.due("ROW 15 of the second", yard.row(1, 15, 12), 12);
        Check.due("ROW 15 of the first is as it was", yard.put(0, 15, 1, 0), -2);
    }

    private static void noSheetOrRow(BreakersYard yard, int sheet, int k) {
        String name = "no SHEET " + sheet + " or ROW " + k + ": ";
        Check.dueThrow(name + "row", INDEX, () -> yard.row(sheet, k, 7));
        Check.dueThrow(name + "row of -1", INDEX, () -> yard.row(sheet, k, -1));
        Check.dueThrow(name + "put", INDEX, () -> yard.put(sheet, k, 0, 0));
        Check.dueThrow(name + "tear", INDEX, () -> yard.tear(sheet, k));
        Check.dueThrow(name + "part", INDEX, () -> yard.part(0, sheet, k));
    }

    private static void rowsMissingAtFirst() {
        BreakersYard yard = new BreakersYard();
        for (int sheet = 0; sheet < 8; sheet++) {
            yard.sheet(sheet % 3);
            for (int k = 0; k < 16; k++) {
                Check.due("missing at first: put " + sheet + " " + k, yard.put(sheet, k, 0, 1), -1);
                Check.due("missing at first: part " + sheet + " " + k, yard.part(0, sheet, k), -1);
                Check.due("missing at first: tear " + sheet + " " + k, yard.tear(sheet, k), 0);
            }
        }
    }

    /** A PRICE put on a SHEET of a WIDTH, and what part() answers; and the PRICE of it, if it is one. */
    private static void widths() {
        price(0, 32767, 32767);
        price(0, 32768, -1);
        price(0, 65535, -1);
        price(0, 65536, 0);
        price(0, 65536 + 5, 5);
        price(0, 100000, 100000 - 65536 - 65536);
        price(0, -65536 + 5, 5);
        price(0, (1L << 32) + 9, 9);
        price(0, Long.MAX_VALUE, -1);
        price(0, Long.MIN_VALUE, 0);
        price(1, 100000, 100000);
        price(1, 100001, -1);
        price(1, 65536, 65536);
        price(1, 1L << 31, -1);
        price(1, (1L << 32) - 1, -1);
        price(1, 1L << 32, 0);
        price(1, (1L << 32) + 100000, 100000);
        price(1, -(1L << 32) + 7, 7);
        price(1, Long.MAX_VALUE, -1);
        price(1, Long.MIN_VALUE + 8, 8);
        price(2, 100000, 100000);
        price(2, 1L << 31, -1);
        price(2, 1L << 32, -1);
        price(2, (1L << 32) + 5, -1);
        price(2, Long.MAX_VALUE, -1);
        price(2, Long.MIN_VALUE, -1);
        price(2, Long.MIN_VALUE + 5, -1);
    }

    private static void price(int width, long v, int want) {
        BreakersYard yard = new BreakersYard();
        yard.sheet(width);
        Check.fillRow(yard, 0, 0, 0, 0, -1, 1, 1, 0, 0);
        Check.due("put is 1 for any number", yard.put(0, 0, 6, v), 1);
        Check.due("lowest bits of " + v + " at WIDTH " + width, yard.part(0, 0, 0), want < 0 ? -3 : 0);
        if (want >= 0) {
            Check.due("PRICE of " + v + " at WIDTH " + width, yard.told(0, 0, 6), want);
        }
    }

    /** Each SHEET has a WIDTH of its own, and a ROW that comes in a place has none of the old one's numbers. */
    private static void mixedWidths() {
        BreakersYard yard = new BreakersYard();
        int[] widths = {2, 0, 1, 2, 0, 1, 0, 2};
        for (int sheet = 0; sheet < 8; sheet++) {
            yard.sheet(widths[sheet]);
            Check.fillRow(yard, sheet, 15, 0, 0, -1, 1, 1, 0, (1L << 32) + (1 << 16) + 5);
            int want = widths[sheet] == 2 ? -3 : 0;
            Check.due("SHEET " + sheet, yard.part(sheet, sheet, 15), want);
            if (want == 0) {
                Check.due("PRICE", yard.told(sheet, 0, 6), widths[sheet] == 0 ? 5 : 65541);
            }
            yard.row(sheet, 15, 8);
            yard.put(sheet, 15, 2, -1);
            yard.put(sheet, 15, 3, 1);
            yard.put(sheet, 15, 4, 1);
            yard.put(sheet, 15, 7, -1);
            Check.due("all 0 again", yard.part(sheet, sheet, 15), want == 0 ? 1 : 0);
            Check.due("PRICE is 0 again", yard.told(sheet, want == 0 ? 1 : 0, 6), 0);
        }
    }

    /** The first and last ROWS of three SHEETS, each with numbers of its own, and none of another's. */
    private static void rowsApart() {
        int[] rows = {0, 1, 2, 14, 15};
        BreakersYard yard = new BreakersYard();
        for (int sheet = 0; sheet < 8; sheet++) {
            yard.sheet(1);
        }
        for (int sheet = 5; sheet < 8; sheet++) {
            for (int k : rows) {
                int price = 16 * sheet + k;
                Check.fillRow(yard, sheet, k, 0, k + sheet, -1, 1 + k, 1 + sheet, sheet % 4, price, -1, 99, 98, 97, 96);
            }
        }
        int part = 0;
        for (int sheet = 5; sheet < 8; sheet++) {
            for (int k : rows) {
                Check.due("part", yard.part(0, sheet, k), part);
                int[] want = {0, k + sheet, -1, 1 + k, 1 + sheet, sheet % 4, 16 * sheet + k, -1};
                for (int what = 0; what < 8; what++) {
                    Check.due("ROW " + k + " of SHEET " + sheet, yard.told(0, part, what), want[what]);
                }
                part++;
            }
        }
        yard.tear(7, 1);
        Check.due("torn alone", yard.part(1, 7, 1), -1);
        Check.due("the one ahead is there", yard.part(1, 7, 0), 0);
        Check.due("the one behind is there", yard.part(1, 7, 2), 1);
    }

    private static void fitOf(String text, int want) {
        BreakersYard yard = new BreakersYard();
        Check.feedText(yard, text);
        Check.due("fit of \"" + text + "\"", yard.fit(text.length()), want);
        Check.due("FITS after \"" + text + "\"", yard.count(1), want < 0 ? 0 : 1);
        Check.due("the TAPE is empty then", yard.count(7), 0);
    }

    private static void byteThatCanStandFirst() {
        for (int sign = 0; sign < 256; sign++) {
            fitOf((char) sign + "", "!(MYK ".indexOf(sign) >= 0 ? -3 : -2);
            fitOf("M1&" + (char) sign, "!(MYK ".indexOf(sign) >= 0 ? -6 : -5);
            fitOf("(" + (char) sign, "!(MYK ".indexOf(sign) >= 0 ? -4 : -3);
            fitOf("!" + (char) sign, "!(MYK ".indexOf(sign) >= 0 ? -4 : -3);
            fitOf("M" + (char) sign, isDigit(sign) ? 0 : sign == ' ' ? -4 : -3);
            fitOf("K" + (char) sign, sign >= 'a' && sign <= 'h' ? 0 : sign == ' ' ? -4 : -3);
            fitOf("Y1-" + (char) sign, isDigit(sign) ? 0 : sign == ' ' ? -6 : -5);
        }
    }

    private static void byteThatCanStandLast() {
        for (int sign = 0; sign < 256; sign++) {
            int joined = sign == '|' || sign == '&' ? 1 : 0;
            fitOf("M1" + (char) sign, isDigit(sign) || sign == ' ' ? 0 : -4 - joined);
            fitOf("M1 " + (char) sign, sign == ' ' ? 0 : -5 - joined);
            fitOf("M1234" + (char) sign, sign == ' ' ? 0 : -7 - joined);
            fitOf("Ka" + (char) sign, sign == ' ' ? 0 : -4 - joined);
            fitOf("(Ka)" + (char) sign, sign == ' ' ? 0 : -6 - joined);
            fitOf("Y1" + (char) sign, isDigit(sign) || sign == '-' || sign == ' ' ? -5 : -4);
            fitOf("Y1234" + (char) sign, sign == '-' || sign == ' ' ? -8 : -7);
            fitOf("(M1" + (char) sign, sign == ')' ? 0 : isDigit(sign) || sign == ' ' ? -6 : -5 - joined);
        }
    }

    private static boolean isDigit(int sign) {
        return sign >= '0' && sign <= '9';
    }

    /** Blanks may stand ahead of each sign, NUMBER and letter, and at the end; in a NUMBER they end it. */
    private static void blanks() {
        String[] tokens = {"!", "(", "M", "12", "|", "Y", "34", "-", "56", "&", "K", "b", ")"};
        for (int at = 0; at <= tokens.length; at++) {
            StringBuilder text = new StringBuilder();
            for (int i = 0; i < tokens.length; i++) {
                text.append(i == at ? "  " : "").append(tokens[i]);
            }
            text.append(at == tokens.length ? "  " : "");
            fitOf(text.toString(), 0);
            BreakersYard yard = new BreakersYard();
            Check.fitText(yard, text.toString());
            Check.due("blanks say nothing", yard.says(0, 12, 0, 0), false);
            Check.due("blanks say nothing", yard.says(0, 1, 34, 2), false);
            Check.due("blanks say nothing", yard.says(0, 1, 56, 1), true);
        }
        fitOf("M1 2", -5);
        fitOf("Y1 2-3", -5);
        fitOf("Y1-2 3", -7);
        fitOf("(M1 2)", -6);
        fitOf("", -2);
        fitOf(" ", -3);
        fitOf(" ".repeat(100), -102);
    }

    /** The PLACE of a text that ends too soon is its length. */
    private static void prefixes() {
        String text = "!(M12|Y34-56&Kb)|M7&!!Ka";
        boolean[] whole = new boolean[text.length() + 1];
        for (int n : new int[] {16, 19, 24}) {
            whole[n] = true;
        }
        for (int n = 0; n <= text.length(); n++) {
            BreakersYard yard = new BreakersYard();
            Check.feedText(yard, text);
            Check.due("the first " + n + " of " + text, yard.fit(n), whole[n] ? 0 : -2 - n);
            Check.due("the rest is no FIT's", yard.count(7), 0);
        }
    }

    private static void says(String text, int model, int year, int marks, boolean want) {
        BreakersYard yard = new BreakersYard();
        Check.due("FIT " + text, Check.fitText(yard, text), 0);
        Check.due(text + " of " + model + " " + year + " " + marks, yard.says(0, model, year, marks), want);
    }

    private static void numbers() {
        for (int far : FAR) {
            says("M0|M1|M9999", far, 0, 0, false);
            says("Y0-9999", 0, far, 0, false);
            says("Y9999-0", 0, far, 0, false);
        }
        says("M0", 0, 0, 0, true);
        says("M0000", 0, 0, 0, true);
        says("M9999", 9999, 0, 0, true);
        says("M9999", 9998, 0, 0, false);
        says("M9999", 10000, 0, 0, false);
        says("M0123", 123, 0, 0, true);
        says("Y5-5", 0, 4, 0, false);
        says("Y5-5", 0, 5, 0, true);
        says("Y5-5", 0, 6, 0, false);
        says("Y6-5", 0, 5, 0, false);
        says("Y6-5", 0, 6, 0, false);
        says("Y0-9999", 0, 0, 0, true);
        says("Y0-9999", 0, -1, 0, false);
        says("Y0-9999", 0, 9999, 0, true);
        says("Y0-9999", 0, 10000, 0, false);
        fitOf("M", -3);
        fitOf("M00001", -7);
        fitOf("Y00001-2", -7);
        fitOf("Y1-00002", -9);
        fitOf("M99999", -7);
    }

    private static void marks() {
        for (int mark = 0; mark < 8; mark++) {
            String text = "K" + (char) ('a' + mark);
            for (int bit = 0; bit < 32; bit++) {
                says(text, 0, 0, 1 << bit, bit == mark);
            }
            says(text, 0, 0, 0, false);
            says(text, 0, 0, Integer.MIN_VALUE + 255, true);
            says(text, 0, 0, -256, false);
        }
    }

    /** At most 100 bytes; the TAPE has no more. */
    private static void hundredBytes() {
        fitOf("M1|".repeat(32) + "M123", 0);
        fitOf("M1|".repeat(33) + "M", -102);
        fitOf("M1|".repeat(33) + "1", -101);
        fitOf("M1|".repeat(33) + " ", -102);
        fitOf(" ".repeat(98) + "M1", 0);
        fitOf("M1" + " ".repeat(98), 0);
        fitOf("M1" + " ".repeat(97) + "1", -101);
        fitOf("Ka&".repeat(32) + "Ka)a", -100);
        says("Ka&".repeat(32) + "Ka  ", 0, 0, 1, true);
        says("Ka&".repeat(32) + "Kb  ", 0, 0, 1, false);
        says("Ka|".repeat(32) + "Kb  ", 0, 0, 2, true);
    }

    private static void openAtOneTime() {
        String opens = "!(".repeat(10);
        String shuts = ")".repeat(10);
        fitOf(opens + "M1" + shuts, 0);
        fitOf(opens + "!M1" + shuts, -22);
        fitOf(opens + "(M1)" + shuts, -22);
        fitOf(opens + " (", -23);
        fitOf("(".repeat(20), -22);
        fitOf("(".repeat(21), -22);
        fitOf("(".repeat(22), -22);
        fitOf("!".repeat(20), -22);
        fitOf("!".repeat(21), -22);
        fitOf("!".repeat(100), -22);
        // A "!" ends with its U: behind "&", "|" and ")" there is room again.
        fitOf("(".repeat(19) + "!M1&!M1|!M1" + ")".repeat(19), 0);
        fitOf("(".repeat(19) + "!!M1", -22);
        fitOf("(".repeat(19) + "!M1&!!M1", -26);
        fitOf("(".repeat(19) + "!(M1", -22);
        fitOf("(".repeat(18) + "!(M1)|(!M1)|!!M1" + ")".repeat(18), 0);
        fitOf("!".repeat(20) + "M1|" + "!".repeat(20) + "M1&" + "(".repeat(20) + "M1" + ")".repeat(20), 0);
        fitOf("!".repeat(20) + "M1|" + "!".repeat(21) + "M1", -45);
        says("!".repeat(19) + "M1", 1, 0, 0, false);
        says("!".repeat(20) + "M1", 1, 0, 0, true);
        says(opens + "M1" + shuts, 1, 0, 0, true);
        says("(Ka&(Kb|".repeat(9) + "Kc" + ")".repeat(18), 0, 0, 5, true);
        says("(Ka&(Kb|".repeat(9) + "Kc" + ")".repeat(18), 0, 0, 1, false);
        says("(Ka|Kb&".repeat(13).substring(0, 70) + "(Kc)" + ")".repeat(10), 0, 0, 6, true);
        says("(Ka|Kb&".repeat(13).substring(0, 70) + "(Kc)" + ")".repeat(10), 0, 0, 2, false);
    }

    private static void fitNumbers() {
        BreakersYard yard = new BreakersYard();
        for (int number = 0; number < 3; number++) {
            Check.due("numbered from 0 on", Check.fitText(yard, "M" + number), number);
            Check.due("a text that is none has no number", Check.fitText(yard, "M"), -3);
        }
        for (int far : FAR) {
            Check.dueThrow("says of FIT " + far, INDEX, () -> yard.says(far, 0, 0, 0));
        }
        Check.dueThrow("says of FIT 3", INDEX, () -> yard.says(3, 0, 0, 0));
        Check.dueThrow("says of FIT 29", INDEX, () -> yard.says(29, 0, 0, 0));
        for (int number = 3; number < 30; number++) {
            Check.fitText(yard, "M" + number);
        }
        Check.due("31st", Check.fitText(yard, "M1"), -1);
        Check.due("31st of no bytes", yard.fit(0), -2);
        Check.dueThrow("says of FIT 30", INDEX, () -> yard.says(30, 0, 0, 0));
        for (int number = 0; number < 30; number++) {
            Check.due("each as it was made", yard.says(number, number, 0, 0), true);
            Check.due("and no other", yard.says(number, number + 1, 0, 0), false);
        }
    }

    /** 30 FITS of many signs each: what one says has nothing of another's. */
    private static void longFitsApart() {
        BreakersYard yard = new BreakersYard();
        for (int number = 0; number < 30; number++) {
            String text = "!!M" + number + "&!(M99|K" + (char) ('a' + number % 8) + "&Y1-2)" + "|M99&M98".repeat(10);
            Check.due("FIT of " + text, Check.fitText(yard, text), number);
        }
        for (int number = 0; number < 30; number++) {
            Check.due("says for its MODEL", yard.says(number, number, 1, 255 - (1 << number % 8)), true);
            Check.due("says for another MODEL", yard.says(number, number + 1, 3, 0), false);
            Check.due("says for its MARK and YEAR", yard.says(number, number, 2, 1 << number % 8), false);
            Check.due("says for another YEAR", yard.says(number, number, 3, 1 << number % 8), true);
        }
    }

    // ---- Terms 2

    private static void models() {
        BreakersYard yard = new BreakersYard();
        yard.sheet(2);
        Check.fillRow(yard, 0, 0, 0, 0, -1, 1, 1, 0, 0);
        for (int far : FAR) {
            noModel(yard, far);
        }
        noModel(yard, 8);
        for (int model = 0; model < 8; model++) {
            noParts(yard, model);
            Check.due("PARTS numbered from 0 on", yard.part(model, 0, 0), 0);
            Check.due("it has one now", yard.car(model, 0, 0, 0), model);
        }
        for (int far : FAR) {
            Check.dueThrow("told of PART " + far, MISSING, () -> yard.told(0, far, 0));
            Check.dueThrow("told of what " + far, ILLEGAL, () -> yard.told(0, 0, far));
        }
        Check.dueThrow("told of PART 2", MISSING, () -> yard.told(0, 2, 0));
        Check.dueThrow("told of PART 24", MISSING, () -> yard.told(0, 24, 0));
        Check.dueThrow("told of what 9", ILLEGAL, () -> yard.told(0, 0, 9));
    }

    /** A MODEL full to the last PART has nothing to do with the next one. */
    private static void modelsApart() {
        BreakersYard yard = new BreakersYard();
        for (int part = 0; part < 23; part++) {
            Check.plainPart(yard, 6, CORE, 1, 1);
        }
        Check.due("PART 23 is a SHELL", Check.makePart(yard, 6, SHELL, 9, 22, 7, 8, 3, 6), 23);
        Check.due("the next MODEL's first, AHEAD is none", Check.plainPart(yard, 7, PLAIN, 1, 1), 0);
        Check.due("the next MODEL's SHELL", Check.plainPart(yard, 7, SHELL, 1, 1), 1);
        Check.due("the MODEL before", Check.plainPart(yard, 5, SHELL, 1, 1), 0);
        Check.due("PART 23 is as it was", yard.told(6, 23, 0), SHELL);
        yard.car(7, 0, 0, 0);
        Check.due("nothing hinders the next MODEL's first", yard.hinders(0, 0), 0);
        Check.due("another one is ON", yard.hinders(0, 1), 5);
    }

    private static void noModel(BreakersYard yard, int model) {
        Check.dueThrow("part of MODEL " + model, ILLEGAL, () -> yard.part(model, 0, 0));
        Check.dueThrow("part of MODEL " + model + " and no ROW", ILLEGAL, () -> yard.part(model, 0, 16));
        Check.dueThrow("part of MODEL " + model + " and a missing ROW", ILLEGAL, () -> yard.part(model, 0, 1));
        noParts(yard, model);
    }

    private static void noParts(BreakersYard yard, int model) {
        Check.dueThrow("told of MODEL " + model, MISSING, () -> yard.told(model, 0, 0));
        Check.dueThrow("car of MODEL " + model, ILLEGAL, () -> yard.car(model, 0, 0, 0));
    }

    private static void rowLengths() {
        long[] numbers = {0, 0, -1, 1, 1, 0, 0, -1, -99, 99, Long.MIN_VALUE, Long.MAX_VALUE};
        BreakersYard yard = new BreakersYard();
        yard.sheet(2);
        Check.due("the ROW is missing", yard.part(0, 0, 0), -1);
        for (int n = 0; n <= 12; n++) {
            Check.fillRow(yard, 0, 0, Arrays.copyOf(numbers, n));
            Check.due("a ROW of " + n, yard.part(0, 0, 0), n < 7 ? -2 : n - 7);
        }
        for (int part = 0; part < 6; part++) {
            Check.due("-1 without", yard.told(0, part, 7), -1);
        }
        yard.row(0, 0, 6);
        yard.put(0, 0, 0, 99);
        Check.due("fewer than 7 comes ahead of a number beyond", yard.part(0, 0, 0), -2);
    }

    private static void aheads() {
        BreakersYard yard = new BreakersYard();
        for (int number = 0; number < 3; number++) {
            Check.plainPart(yard, 0, PLAIN, 1, 1);
        }
        Check.plainPart(yard, 1, PLAIN, 1, 1);
        Check.due("AHEAD is there already", Check.makePart(yard, 0, 0, 1, 2, 1, 1, 0, 0), 3);
        Check.due("AHEAD is itself", Check.makePart(yard, 0, 0, 1, 4, 1, 1, 0, 0), -3);
        Check.due("AHEAD is not there yet", Check.makePart(yard, 0, 0, 1, 5, 1, 1, 0, 0), -3);
        Check.due("AHEAD is beyond", Check.makePart(yard, 0, 0, 1, 24, 1, 1, 0, 0), -3);
        Check.due("AHEAD is -2", Check.makePart(yard, 0, 0, 1, -2, 1, 1, 0, 0), -3);
        Check.due("AHEAD is another MODEL's", Check.makePart(yard, 1, 0, 1, 2, 1, 1, 0, 0), -3);
        Check.due("AHEAD is 0", Check.makePart(yard, 1, 0, 1, 0, 1, 1, 0, 0), 1);
        Check.due("FIT 0 is not there", Check.makePart(yard, 1, 0, 1, 0, 1, 1, 0, 0, 0), -3);
        Check.fitText(yard, "M1");
        Check.due("FIT 0 is there", Check.makePart(yard, 1, 0, 1, 0, 1, 1, 0, 0, 0), 2);
        Check.due("FIT 1 is not there", Check.makePart(yard, 1, 0, 1, 0, 1, 1, 0, 0, 1), -3);
        Check.due("FIT -2", Check.makePart(yard, 1, 0, 1, 0, 1, 1, 0, 0, -2), -3);
    }

    private static void shells() {
        BreakersYard yard = new BreakersYard();
        Check.plainPart(yard, 0, PLAIN, 1, 1);
        Check.plainPart(yard, 0, PLAIN, 1, 1);
        Check.due("the last is a SHELL", Check.plainPart(yard, 0, SHELL, 1, 1), 2);
        Check.due("a second SHELL", Check.plainPart(yard, 0, SHELL, 1, 1), -4);
        Check.due("AHEAD is the SHELL", Check.makePart(yard, 0, 0, 1, 2, 1, 1, 0, 0), -4);
        Check.due("a second SHELL behind the SHELL", Check.makePart(yard, 0, SHELL, 1, 2, 1, 1, 0, 0), -4);
        Check.due("AHEAD is none", Check.makePart(yard, 0, 0, 1, 1, 1, 1, 0, 0), 3);
        Check.due("a SHELL in the midst, a second one", Check.plainPart(yard, 0, SHELL, 1, 1), -4);
        Check.due("another MODEL's SHELL", Check.plainPart(yard, 1, SHELL, 1, 1), 0);
        Check.due("KIND 6", Check.plainPart(yard, 0, 6, 1, 1), -3);
        Check.due("no KIND beyond is a SHELL", Check.plainPart(yard, 2, PLAIN, 1, 1), 0);
    }

    // ---- Terms 3

    private static void laterParts() {
        BreakersYard yard = new BreakersYard();
        Check.makePart(yard, 0, PLAIN, 1, -1, 1, 10, 0, 100);
        yard.car(0, 0, 0, 0);
        Check.makePart(yard, 0, SHELL, 1, 0, 1, 1000, 0, 100);
        yard.car(0, 0, 0, 1);
        for (int far : FAR) {
            noPart(yard, 0, far);
            noPart(yard, far, 0);
        }
        noPart(yard, 0, 1);
        noPart(yard, 0, 2);
        noPart(yard, 0, 24);
        noPart(yard, 0, 31);
        noPart(yard, 0, 32);
        noPart(yard, 2, 0);
        noPart(yard, 40, 0);
        Check.due("the second's SHELL", yard.hinders(1, 1), 0);
        Check.due("CAME of both", yard.grams(0, 0), 1010);
        yard.drain(0);
        yard.papers(0);
        Check.due("later ones are none of the PRESSED", yard.press(0), 10);
        Check.due("the second is ON", yard.grams(0, 1), 1000);
    }

    private static void noPart(BreakersYard yard, int car, int part) {
        Check.dueThrow("hinders " + car + " " + part, MISSING, () -> yard.hinders(car, part));
        Check.dueThrow("take " + car + " " + part, MISSING, () -> yard.take(car, part));
        if (part == 0) {
            Check.dueThrow("about " + car, MISSING, () -> yard.about(car, 0));
            Check.dueThrow("about " + car + " another what", MISSING, () -> yard.about(car, 8));
            Check.dueThrow("drain " + car, MISSING, () -> yard.drain(car));
            Check.dueThrow("papers " + car, MISSING, () -> yard.papers(car));
            Check.dueThrow("press " + car, MISSING, () -> yard.press(car));
            Check.dueThrow("best " + car, MISSING, () -> yard.best(car, 0));
            Check.dueThrow("worth " + car, MISSING, () -> yard.worth(car, 1001));
        }
    }

    private static void laterPartsOfBest() {
        BreakersYard yard = new BreakersYard();
        Check.plainPart(yard, 0, PLAIN, 1, 100);
        yard.car(0, 0, 0, 0);
        Check.makePart(yard, 0, PLAIN, 1, 0, 1, 1, 0, 100000);
        yard.car(0, 0, 0, 0);
        Check.due("BEST without later ones", yard.best(0, 10), 0);
        Check.due("WORTH without later ones", yard.worth(0, 1), 90);
        Check.due("BEST with them", yard.best(1, 10), 3);
        Check.due("the first's PART", yard.take(0, 0), 0);
        Check.due("none is left", yard.about(0, 3), 0);
    }

    /** Parts: 0 plain, 1 WET behind 0, 2 DANGER behind 1, 3 SHELL behind 0, 4 WET. */
    private static BreakersYard orderYard() {
        BreakersYard yard = new BreakersYard();
        Check.makePart(yard, 0, PLAIN, 0, -1, 1, 1, 0, 0);
        Check.makePart(yard, 0, WET, 1, 0, 1, 1, 0, 0);
        Check.makePart(yard, 0, DANGER, 2, 1, 1, 1, 0, 0);
        Check.makePart(yard, 0, SHELL, 3, 0, 1, 1, 0, 0);
        Check.makePart(yard, 0, WET, 4, -1, 1, 1, 0, 0);
        return yard;
    }

    private static void hindered(BreakersYard yard, String name, int part, int want) {
        int car = yard.count(2) - 1;
        Check.due(name, yard.hinders(car, part), want);
        int items = yard.count(4);
        Check.due("take: " + name, yard.take(car, part), want == 0 ? items : -want);
    }

    private static void hindranceOrder() {
        BreakersYard yard = orderYard();
        yard.car(0, 0, 0, 0b00010);
        hindered(yard, "not ON ahead of AHEAD and undrained", 1, 2);
        yard.car(0, 0, 0, 0b01000);
        hindered(yard, "a SHELL not ON ahead of AHEAD and others", 3, 2);
        yard.car(0, 0, 0, 0);
        hindered(yard, "AHEAD ahead of undrained", 1, 3);
        hindered(yard, "AHEAD ahead of undrained, a DANGER", 2, 3);
        hindered(yard, "AHEAD ahead of another ON", 3, 3);
        hindered(yard, "undrained alone, WET", 4, 4);
        yard.car(0, 0, 0, 0b00001);
        hindered(yard, "an AHEAD that lacks is none, undrained", 1, 4);
        hindered(yard, "an AHEAD that lacks is none, another ON", 3, 5);
        yard.car(0, 0, 0, 0b00011);
        hindered(yard, "DANGER undrained", 2, 4);
        yard.car(0, 0, 0, 0b00111);
        hindered(yard, "one other ON, of a higher number", 3, 5);
        yard.car(0, 0, 0, 0b10110);
        hindered(yard, "one other ON, of a lower number: AHEAD", 3, 3);
        hindered(yard, "nothing", 0, 0);
        hindered(yard, "OFF", 0, 2);
        hindered(yard, "AHEAD is OFF, and no other ON", 3, 0);
        hindered(yard, "a SHELL OFF", 3, 2);
        yard.car(0, 0, 0, 0b11111);
        yard.drain(yard.count(2) - 1);
        yard.papers(yard.count(2) - 1);
        yard.press(yard.count(2) - 1);
        for (int part = 0; part < 5; part++) {
            hindered(yard, "PRESSED ahead of not ON", part, 1);
        }
    }

    private static void hindranceOrderOfFullShelf() {
        BreakersYard yard = orderYard();
        for (int part = 0; part < 20; part++) {
            Check.plainPart(yard, 1, PLAIN, 1, 1);
        }
        yard.car(0, 0, 0, 0b11111);
        yard.drain(0);
        yard.papers(0);
        yard.press(0);
        for (int item = 0; item < 59; item++) {
            if (item % 20 == 0) {
                yard.car(1, 0, 0, 0);
            }
            yard.take(1 + item / 20, item % 20);
        }
        yard.car(0, 0, 0, 0b10100);
        Check.due("59 on the shelf", yard.hinders(4, 0), 0);
        Check.due("the 60th", yard.take(3, 19), 59);
        hindered(yard, "60 on the shelf", 0, 6);
        hindered(yard, "AHEAD ahead of a full shelf", 1, 3);
        hindered(yard, "not ON ahead of a full shelf", 2, 2);
        yard.car(0, 0, 0, 0b00001);
        hindered(yard, "undrained ahead of a full shelf", 4, 4);
        hindered(yard, "another ON ahead of a full shelf", 3, 5);
        yard.drain(5);
        hindered(yard, "drained, the shelf alone", 4, 6);
        Check.due("PRESSED ahead of a full shelf", yard.hinders(0, 0), 1);
        Check.due("60 are on it still", yard.count(3), 60);
        Check.due("the DRAIN can be undone", yard.undo(), 1);
    }

    private static void pressOrder() {
        for (int state = 0; state < 8; state++) {
            BreakersYard yard = new BreakersYard();
            Check.makePart(yard, 0, DANGER, 0, -1, 1, 7, 0, 0);
            Check.makePart(yard, 0, SHELL, 0, -1, 1, 30, 0, 0);
            boolean drained = (state & 1) != 0;
            boolean ended = (state & 2) != 0;
            boolean danger = (state & 4) != 0;
            yard.car(0, 0, 0, danger ? 0 : 1);
            if (drained) {
                yard.drain(0);
            }
            if (ended) {
                yard.papers(0);
            }
            int want = !drained ? -2 : !ended ? -3 : danger ? -4 : 30;
            Check.due("press of state " + state, yard.press(0), want);
            Check.due("PRESSED of state " + state, yard.about(0, 6), want > 0 ? 1 : 0);
            Check.due("again", yard.press(0), want > 0 ? -1 : want);
        }
    }

    private static void pressOfFirstPart() {
        int[] kinds = {PLAIN, PAIR, CORE, WET, DANGER, SHELL};
        for (int place = 0; place < 3; place++) {
            for (int kind : kinds) {
                BreakersYard yard = new BreakersYard();
                for (int part = 0; part < 3; part++) {
                    Check.makePart(yard, 0, part == place ? kind : PLAIN, 0, -1, 1, 10 + part, 0, 0);
                }
                yard.car(0, 0, 0, 7 - (1 << place));
                yard.drain(0);
                yard.papers(0);
                int want = kind == DANGER ? -4 : 10 + place;
                Check.due("press of PART " + place + " of KIND " + kind, yard.press(0), want);
                Check.due("PRESSED grams", yard.grams(0, 4), want > 0 ? want : 0);
                Check.due("grams ON", yard.grams(0, 1), want > 0 ? 0 : 10 + place);
            }
        }
    }

    private static void lates() {
        BreakersYard yard = new BreakersYard();
        Check.plainPart(yard, 0, PLAIN, 1, 1);
        yard.day(3);
        yard.car(0, 0, 0, 0);
        int[] days = {0, 1, 3, 4, 5, 6, 88, 89, 90, 91, 10091};
        int gone = 0;
        for (int day : days) {
            yard.day(day - gone);
            gone = day;
            Check.due("undrained for " + day, yard.late(0, 0), day >= 5 ? 0 : -1);
            Check.due("not PRESSED for " + day, yard.late(1, 0), day >= 90 ? 0 : -1);
            Check.due("no second for " + day, yard.late(0, 1), -1);
        }
        for (int far : FAR) {
            Check.due("late k " + far, yard.late(0, far), -1);
            Check.dueThrow("late what " + far, ILLEGAL, () -> yard.late(far, 0));
        }
        Check.dueThrow("late what 2", ILLEGAL, () -> yard.late(2, 0));
        yard.drain(0);
        Check.due("DRAINED is not LATE", yard.late(0, 0), -1);
        Check.due("DRAINED and not PRESSED is", yard.late(1, 0), 0);
        yard.papers(0);
        yard.press(0);
        Check.due("PRESSED is not LATE", yard.late(1, 0), -1);
        yard.car(0, 0, 0, 0);
        yard.day(5);
        Check.due("the first that is LATE", yard.late(0, 0), 1);
        Check.due("none for 90", yard.late(1, 0), -1);
    }

    // ---- Terms 4

    /** An eighth, cut, for each 30 DAYS, 24 times at most, of a CORE's half, cut. */
    private static void fallsByMonths() {
        int[] days = {0, 1, 29, 30, 31, 59, 60, 61, 89, 90, 689, 690, 719, 720, 721, 749, 750, 10000, 20000};
        BreakersYard yard = new BreakersYard();
        Check.plainPart(yard, 0, PLAIN, 0, 100000);
        Check.plainPart(yard, 0, CORE, 1, 99999);
        yard.day(11);
        yard.car(0, 0, 0, 0);
        yard.take(0, 0);
        yard.take(0, 1);
        int today = 0;
        for (int day : days) {
            yard.day(day - today);
            today = day;
            Check.due("VALUE after " + day, yard.item(0, 3), fallen(100000, day));
            Check.due("VALUE of a CORE after " + day, yard.item(1, 3), fallen(49999, day));
        }
        Check.due("sold for the same", yard.sell(0, 0), fallen(100000, 720));
        Check.due("what was paid stays", yard.item(0, 3), fallen(100000, 720));
        yard.day(30);
        Check.due("and is given back", yard.back(0, 0), fallen(100000, 720));
        Check.due("VALUE from this DAY on", yard.item(0, 3), 100000);
        yard.day(29);
        Check.due("29 DAYS later", yard.item(0, 3), 100000);
        yard.day(1);
        Check.due("30 DAYS later", yard.item(0, 3), 87500);
    }

    private static int fallen(int value, int days) {
        int left = value;
        for (int month = 1; month <= 24 && month * 30 <= days; month++) {
            left -= left / 8;
        }
        return left;
    }

    private static void smallValues() {
        int[] prices = {0, 1, 2, 7, 8, 9, 15, 16, 17};
        int[] later = {0, 1, 2, 7, 7, 8, 14, 14, 15};
        int[] cores = {0, 0, 1, 3, 4, 4, 7, 8, 8};
        BreakersYard yard = new BreakersYard();
        for (int price : prices) {
            Check.plainPart(yard, 0, PLAIN, 0, price);
            Check.plainPart(yard, 0, CORE, 0, price);
        }
        yard.car(0, 0, 0, 0);
        for (int part = 0; part < 18; part++) {
            yard.take(0, part);
        }
        for (int i = 0; i < prices.length; i++) {
            Check.due("VALUE of " + prices[i], yard.item(2 * i, 3), prices[i]);
            Check.due("VALUE of a CORE of " + prices[i], yard.item(2 * i + 1, 3), cores[i]);
        }
        yard.day(30);
        for (int i = 0; i < prices.length; i++) {
            Check.due("VALUE of " + prices[i] + " later", yard.item(2 * i, 3), later[i]);
            int core = cores[i] == 8 ? 7 : cores[i];
            Check.due("VALUE of a CORE of " + prices[i] + " later", yard.item(2 * i + 1, 3), core);
        }
    }

    private static void stands() {
        BreakersYard yard = new BreakersYard();
        Check.fitText(yard, "M7");
        Check.fitText(yard, "Y10-20&Kh");
        Check.makePart(yard, 3, PLAIN, 0, -1, 1, 1, 0, 1);
        Check.makePart(yard, 3, PLAIN, 0, -1, 1, 1, 0, 1, 0);
        Check.makePart(yard, 3, PLAIN, 99, -1, 1, 1, 0, 1, 1);
        yard.car(3, 15, 128, 0);
        for (int part = 0; part < 3; part++) {
            yard.take(0, part);
        }
        finds(yard, 0, 3, 15, 128, 0);
        finds(yard, 0, 7, 0, 0, 1);
        finds(yard, 0, 4, 15, 128);
        finds(yard, 99, 3, 15, 128, 2);
        finds(yard, 99, -5, 10, -1, 2);
        finds(yard, 99, 3, 9, 128);
        finds(yard, 99, 3, 20, 128, 2);
        finds(yard, 99, 3, 21, 128);
        finds(yard, 99, 3, 15, 127);
        finds(yard, 99, 3, 15, 256 + 128, 2);
        for (int far : FAR) {
            Check.dueThrow("find of NAME " + far, ILLEGAL, () -> yard.find(far, 0, 0, 0));
            Check.due("found " + far, yard.found(far), -1);
            finds(yard, 0, far, far, far);
        }
        Check.dueThrow("find of NAME 100", ILLEGAL, () -> yard.find(100, 0, 0, 0));
    }

    private static void finds(BreakersYard yard, int name, int model, int year, int marks, int... want) {
        String call = "find " + name + " " + model + " " + year + " " + marks;
        Check.due(call, yard.find(name, model, year, marks), want.length);
        for (int k = 0; k < want.length; k++) {
            Check.due("found " + k, yard.found(k), want[k]);
        }
        Check.due("found no more", yard.found(want.length), -1);
    }

    /** By VALUE as it is on that DAY, not by PRICE; of equal ones by number; those of the MODEL ahead. */
    private static void foundOrder() {
        BreakersYard yard = new BreakersYard();
        Check.fitText(yard, "M0|!M0");
        Check.makePart(yard, 0, PLAIN, 0, -1, 1, 1, 0, 800, 0);
        Check.makePart(yard, 0, CORE, 0, -1, 1, 1, 0, 1400, 0);
        Check.makePart(yard, 0, PLAIN, 0, -1, 1, 1, 0, 750, 0);
        Check.makePart(yard, 1, PLAIN, 0, -1, 1, 1, 0, 0, 0);
        yard.car(0, 0, 0, 0);
        yard.take(0, 0);
        yard.day(30);
        yard.car(1, 0, 0, 0);
        yard.take(1, 0);
        yard.take(0, 2);
        yard.take(0, 1);
        finds(yard, 0, 0, 0, 0, 0, 3, 2, 1);
        finds(yard, 0, 1, 0, 0, 1, 0, 3, 2);
        finds(yard, 0, 5, 0, 0, 1, 0, 3, 2);
        yard.sell(0, 0);
        Check.due("as it was", yard.found(1), 0);
        yard.back(0, 0);
        finds(yard, 0, 0, 0, 0, 3, 2, 0, 1);
    }

    /** Parts: 0, 1 and 4 PAIRS of a NAME, 2 a PAIR of another, 3 a PLAIN of the first NAME; two cars. */
    private static BreakersYard pairYard() {
        BreakersYard yard = new BreakersYard();
        Check.plainPart(yard, 0, PAIR, 5, 101);
        Check.plainPart(yard, 0, PAIR, 5, 203);
        Check.plainPart(yard, 0, PAIR, 6, 407);
        Check.plainPart(yard, 0, PLAIN, 5, 809);
        Check.plainPart(yard, 0, PAIR, 5, 1601);
        yard.car(0, 0, 0, 0);
        yard.car(0, 0, 0, 0);
        return yard;
    }

    private static void pairPartners() {
        BreakersYard yard = pairYard();
        yard.take(0, 3);
        yard.take(0, 2);
        yard.take(1, 0);
        yard.take(0, 0);
        Check.due("no other NAME, KIND or CAR", yard.sell(3, 0), 50);
        Check.due("half was paid", yard.item(3, 3), 50);
        Check.due("the others lie on the shelf", yard.count(3), 3);
        yard.take(0, 4);
        yard.take(0, 1);
        Check.due("a SOLD one is none to go with", yard.sell(5, 1), 203 + 1601);
        Check.due("the least was the other", yard.item(4, 3), 1601);
        Check.due("the other CAR's alone", yard.sell(2, 0), 50);
        Check.due("the other NAME's alone", yard.sell(1, 0), 203);
        Check.due("no PAIR", yard.sell(0, 0), 809);
        BreakersYard three = pairYard();
        three.take(0, 4);
        three.take(0, 1);
        three.take(0, 0);
        Check.due("the least but itself, above it", three.sell(0, 0), 1601 + 203);
        Check.due("the third is there", three.item(2, 2), 0);
        BreakersYard higher = pairYard();
        higher.take(0, 4);
        higher.take(0, 1);
        higher.take(0, 0);
        Check.due("the least, below it", higher.sell(2, 0), 101 + 1601);
        Check.due("the midst is there", higher.item(1, 2), 0);
    }

    private static void pairPartnersGone() {
        BreakersYard yard = pairYard();
        yard.take(0, 0);
        yard.take(0, 1);
        yard.sell(0, 0);
        yard.back(0, 1);
        Check.due("BAD", yard.item(0, 2), 2);
        yard.back(1, 0);
        Check.due("a BAD one is none to go with", yard.sell(1, 0), 101);
        yard.back(1, 0);
        yard.take(0, 4);
        yard.undo();
        Check.due("an undone one is none to go with", yard.sell(1, 0), 101);
        yard.back(1, 0);
        yard.take(0, 4);
        Check.due("one that came off again is", yard.sell(1, 0), 203 + 1601);
        Check.due("its number", yard.item(3, 2), 1);
        Check.due("TILL", yard.till(), 203 + 1601);
    }

    private static void pairsAlone() {
        int[] prices = {0, 1, 2, 3, 9};
        int[] alone = {0, 0, 1, 1, 4};
        int[] later = {0, 0, 1, 1, 4};
        for (int i = 0; i < prices.length; i++) {
            BreakersYard yard = new BreakersYard();
            Check.plainPart(yard, 0, PAIR, 5, prices[i]);
            Check.plainPart(yard, 0, PAIR, 6, prices[i]);
            yard.car(0, 0, 0, 0);
            yard.take(0, 0);
            yard.take(0, 1);
            Check.due("alone, half of " + prices[i], yard.sell(0, 0), alone[i]);
            Check.due("on the shelf it has its whole VALUE", yard.item(1, 3), prices[i]);
            yard.day(30);
            Check.due("alone, later, half of " + prices[i], yard.sell(1, 1), later[i]);
            Check.due("half is given back", yard.back(1, 1), later[i]);
            Check.due("TILL", yard.till(), alone[i]);
        }
    }

    private static void dangers() {
        BreakersYard yard = new BreakersYard();
        Check.plainPart(yard, 0, DANGER, 5, 100);
        Check.plainPart(yard, 0, WET, 5, 50);
        Check.plainPart(yard, 0, PLAIN, 5, 50);
        yard.car(0, 0, 0, 0);
        yard.drain(0);
        for (int part = 0; part < 3; part++) {
            yard.take(0, part);
        }
        Check.due("a DANGER, not for the trade", yard.sell(0, 0), -2);
        Check.due("a WET, not for the trade", yard.sell(1, 0), 50);
        Check.due("another, for the trade", yard.sell(2, 1), 50);
        for (int far : FAR) {
            Check.dueThrow("trade " + far, ILLEGAL, () -> yard.sell(0, far));
            Check.dueThrow("sell " + far, MISSING, () -> yard.sell(far, 0));
            Check.dueThrow("sell " + far + " to no such", MISSING, () -> yard.sell(far, 2));
        }
        Check.dueThrow("trade 2 of a SOLD one", ILLEGAL, () -> yard.sell(1, 2));
        Check.due("it is there", yard.item(0, 2), 0);
        Check.due("a DANGER, for the trade", yard.sell(0, 1), 100);
        Check.due("BACK", yard.back(0, 0), 100);
        Check.due("again not for the trade", yard.sell(0, 0), -2);
    }

    private static void backDays() {
        int[] days = {0, 1, 29, 30, 31, 32, 10000};
        for (int bad = 0; bad <= 1; bad++) {
            for (int day : days) {
                BreakersYard yard = new BreakersYard();
                Check.plainPart(yard, 0, PLAIN, 5, 64);
                yard.car(0, 0, 0, 0);
                yard.take(0, 0);
                yard.day(60);
                yard.sell(0, 0);
                yard.day(day);
                boolean late = day > 30;
                Check.due("BACK after " + day, yard.back(0, bad), late ? -2 : 49);
                Check.due("where it is", yard.item(0, 2), late ? 1 : bad * 2);
                Check.due("since", yard.item(0, 4), late ? 60 : 60 + day);
                Check.due("TILL", yard.till(), late ? 49 : 0);
                Check.due("on the shelf", yard.count(3), late || bad == 1 ? 0 : 1);
                Check.due("BACK again", yard.back(0, bad), late ? -2 : -1);
            }
        }
        BreakersYard yard = pairYard();
        yard.take(0, 0);
        for (int far : FAR) {
            Check.dueThrow("bad " + far, ILLEGAL, () -> yard.back(0, far));
            Check.dueThrow("back " + far, MISSING, () -> yard.back(far, 0));
            Check.dueThrow("item " + far, MISSING, () -> yard.item(far, 0));
            Check.dueThrow("item what " + far, ILLEGAL, () -> yard.item(0, far));
        }
        Check.dueThrow("item what 5", ILLEGAL, () -> yard.item(0, 5));
        Check.dueThrow("bad 2 of one that is not SOLD", ILLEGAL, () -> yard.back(0, 2));
        yard.undo();
        Check.due("BACK of an undone one", yard.back(0, 0), -1);
    }

    private static void backsOfPairs() {
        BreakersYard yard = pairYard();
        yard.take(0, 0);
        yard.day(30);
        yard.take(0, 1);
        Check.due("both", yard.sell(1, 0), 89 + 203);
        yard.day(30);
        Check.due("its own", yard.back(0, 0), 89);
        Check.due("whole again", yard.item(0, 3), 101);
        yard.day(1);
        Check.due("the other is too late", yard.back(1, 0), -2);
        Check.due("TILL", yard.till(), 203);
        Check.due("alone now", yard.sell(0, 0), 50);
        Check.due("TILL", yard.till(), 253);
        Check.due("the half is given back", yard.back(0, 0), 50);
        Check.due("TILL", yard.till(), 203);
    }

    // ---- Terms 5

    private static void wages() {
        BreakersYard yard = new BreakersYard();
        Check.makePart(yard, 0, PLAIN, 1, -1, 100, 1, 0, 100000);
        Check.makePart(yard, 0, PLAIN, 1, -1, 99, 1, 0, 99001);
        Check.makePart(yard, 0, PLAIN, 1, -1, 240, 1, 0, 0);
        yard.car(0, 0, 0, 0);
        best(yard, 0, 0, 3, 199001);
        best(yard, 0, 999, 3, 100 + 100);
        best(yard, 0, 1000, 2, 1);
        for (int far : FAR) {
            Check.dueThrow("best for " + far, ILLEGAL, () -> yard.best(0, far));
            Check.dueThrow("worth for " + far, ILLEGAL, () -> yard.worth(0, far));
        }
        Check.dueThrow("best for 1001", ILLEGAL, () -> yard.best(0, 1001));
        Check.dueThrow("worth for 1001", ILLEGAL, () -> yard.worth(0, 1001));
        Check.due("asked, nothing is taken", yard.about(0, 3), 7);
    }

    private static void best(BreakersYard yard, int car, int wage, int bits, int worth) {
        Check.due("BEST of " + car + " for " + wage, yard.best(car, wage), bits);
        Check.due("WORTH of " + car + " for " + wage, yard.worth(car, wage), worth);
    }

    /** With each one its AHEAD if that is ON: an AHEAD that is OFF or LACKING costs nothing more. */
    private static void bestAheads() {
        BreakersYard yard = new BreakersYard();
        Check.makePart(yard, 0, PLAIN, 1, -1, 10, 1, 0, 10);
        Check.makePart(yard, 0, PLAIN, 1, 0, 10, 1, 0, 10);
        Check.makePart(yard, 0, PLAIN, 1, 1, 10, 1, 0, 120);
        yard.car(0, 0, 0, 0);
        best(yard, 0, 4, 7, 20);
        best(yard, 0, 5, 0, 0);
        yard.car(0, 0, 0, 2);
        best(yard, 1, 5, 4, 70);
        best(yard, 1, 1, 4, 110);
        best(yard, 1, 0, 5, 130);
        yard.take(0, 0);
        best(yard, 0, 5, 6, 30);
        best(yard, 0, 7, 0, 0);
        yard.take(0, 1);
        best(yard, 0, 7, 4, 50);
        best(yard, 0, 12, 0, 0);
        yard.undo();
        yard.undo();
        best(yard, 0, 5, 0, 0);
    }

    /** Without WET and DANGER ones if it is not DRAINED, and so without those behind them. */
    private static void bestUndrained() {
        for (int kind = PLAIN; kind <= SHELL; kind++) {
            BreakersYard yard = new BreakersYard();
            Check.makePart(yard, 0, kind, 1, -1, 1, 1, 0, 101);
            Check.makePart(yard, 0, PLAIN, 1, kind == SHELL ? -1 : 0, 1, 1, 0, 1000);
            yard.car(0, 0, 0, 0);
            yard.car(0, 0, 0, 1);
            boolean wet = kind == WET || kind == DANGER;
            int price = kind == PAIR || kind == CORE ? 50 : 101;
            best(yard, 0, 0, wet ? 0 : kind == SHELL ? 2 : 3, wet ? 0 : kind == SHELL ? 1000 : 1000 + price);
            best(yard, 1, 0, 2, 1000);
            yard.drain(0);
            best(yard, 0, 0, kind == SHELL ? 2 : 3, kind == SHELL ? 1000 : 1000 + price);
            yard.undo();
            best(yard, 0, 0, wet ? 0 : kind == SHELL ? 2 : 3, wet ? 0 : kind == SHELL ? 1000 : 1000 + price);
        }
    }

    private static void bestChain() {
        BreakersYard yard = new BreakersYard();
        for (int part = 0; part < 24; part++) {
            Check.makePart(yard, 0, PLAIN, 1, part - 1, 240, 1, 0, part == 23 ? 100000 : 0);
        }
        yard.car(0, 0, 0, 0);
        best(yard, 0, 0, (1 << 24) - 1, 100000);
        best(yard, 0, 17, (1 << 24) - 1, 100000 - 240 * 24 * 17);
        best(yard, 0, 18, 0, 0);
        BreakersYard most = new BreakersYard();
        for (int part = 0; part < 24; part++) {
            Check.makePart(most, 0, PLAIN, 1, -1, 1, 200000, 0, 100000);
        }
        most.car(0, 0, 0, 0);
        best(most, 0, 0, (1 << 24) - 1, 2400000);
        best(most, 0, 1000, (1 << 24) - 1, 2400000 - 24000);
    }

    // ---- Terms 6

    private static void mostGrams() {
        BreakersYard yard = new BreakersYard();
        for (int part = 0; part < 24; part++) {
            Check.makePart(yard, 7, PLAIN, 1, -1, 1, 200000, 3, 1);
        }
        for (int car = 0; car < 40; car++) {
            yard.car(7, 0, 0, 0);
        }
        Check.due("CAME", yard.grams(3, 0), 40 * 24 * 200000);
        Check.due("ON", yard.grams(3, 1), 40 * 24 * 200000);
        yard.drain(39);
        yard.papers(39);
        Check.due("PRESSED at once", yard.press(39), 24 * 200000);
        Check.due("PRESSED", yard.grams(3, 4), 24 * 200000);
        for (int far : FAR) {
            Check.dueThrow("grams of STUFF " + far, ILLEGAL, () -> yard.grams(far, 0));
            Check.dueThrow("grams of what " + far, ILLEGAL, () -> yard.grams(3, far));
            Check.due("count of " + far, yard.count(far), -1);
        }
        Check.dueThrow("grams of STUFF 4", ILLEGAL, () -> yard.grams(4, 0));
        Check.dueThrow("grams of what 6", ILLEGAL, () -> yard.grams(0, 6));
        Check.due("count of 8", yard.count(8), -1);
    }

    /** The latest 10: of each number of acts as many can be undone, the latest first. */
    private static void tenActs() {
        for (int acts = 0; acts <= 23; acts++) {
            BreakersYard yard = new BreakersYard();
            for (int part = 0; part < 24; part++) {
                Check.plainPart(yard, 0, PLAIN, 1, 1);
            }
            yard.car(0, 0, 0, 0);
            for (int act = 0; act < acts; act++) {
                yard.take(0, act);
            }
            int held = Math.min(acts, 10);
            Check.due("acts of " + acts, yard.count(6), held);
            for (int undone = 1; undone <= held; undone++) {
                Check.due("undo", yard.undo(), 3);
                Check.due("it is undone", yard.item(acts - undone, 2), 3);
                Check.due("acts left", yard.count(6), held - undone);
                Check.due("it is ON", yard.about(0, 3) >> acts - undone, (1 << 24 - acts + undone) - 1);
            }
            Check.due("none left", yard.undo(), -1);
            Check.due("again none", yard.undo(), -1);
            Check.due("on the shelf", yard.count(3), acts - held);
            Check.due("the next number", yard.take(0, 23), acts);
        }
    }

    /** The eldest of ten, and one of DRAIN and PAPERS without the other. */
    private static void actsStandAlone() {
        BreakersYard yard = new BreakersYard();
        Check.plainPart(yard, 0, PLAIN, 1, 1);
        for (int car = 0; car < 6; car++) {
            yard.car(0, 0, 0, 0);
        }
        for (int car = 0; car < 5; car++) {
            yard.papers(car);
            yard.drain(car);
        }
        Check.due("ten", yard.count(6), 10);
        for (int car = 4; car >= 0; car--) {
            Check.due("DRAIN", yard.undo(), 1);
            Check.due("not DRAINED", yard.about(car, 4), 0);
            Check.due("PAPERS are as they were", yard.about(car, 5), 1);
            yard.drain(car);
            yard.undo();
            Check.due("PAPERS", yard.undo(), 2);
            Check.due("not ENDED", yard.about(car, 5), 0);
        }
        yard.drain(5);
        yard.papers(5);
        Check.due("PAPERS alone", yard.undo(), 2);
        Check.due("it is DRAINED still", yard.about(5, 4), 1);
        Check.due("and has no PAPERS ENDED", yard.about(5, 5), 0);
        Check.due("again", yard.papers(5), 1);
        Check.due("acts", yard.count(6), 2);
    }

    /** Another act leaves none only if it does something. */
    private static void otherActs() {
        BreakersYard yard = new BreakersYard();
        Check.plainPart(yard, 0, DANGER, 1, 1);
        Check.plainPart(yard, 0, PLAIN, 1, 0);
        yard.car(0, 0, 0, 0);
        yard.drain(0);
        yard.take(0, 0);
        yard.take(0, 1);
        yard.drain(0);
        yard.day(0);
        yard.press(0);
        yard.sell(0, 0);
        yard.back(0, 0);
        yard.back(0, 1);
        Check.due("refused ones leave all", yard.count(6), 3);
        Check.due("SOLD for 0 is done", yard.sell(1, 0), 0);
        Check.due("it leaves none", yard.count(6), 0);
        yard.papers(0);
        Check.due("BACK for 0 is done", yard.back(1, 1), 0);
        Check.due("it leaves none", yard.count(6), 0);
        Check.due("PAPERS had ENDED", yard.papers(0), 0);
        Check.due("none to undo", yard.undo(), -1);
        yard.car(0, 0, 0, 3);
        yard.drain(1);
        yard.papers(1);
        Check.due("an empty hull is PRESSED", yard.press(1), 0);
        Check.due("it leaves none", yard.count(6), 0);
    }
}
