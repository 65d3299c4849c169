import java.util.NoSuchElementException;
import java.util.function.Consumer;
import java.util.function.ToLongFunction;

/**
 * Each call that is refused does nothing, and neither does one that only asks: two yards are made alike, one
 * gets the call, and then all that can be seen of both is compared.
 */
public final class RefusalsTest {
    private static final Class<?> ILLEGAL = IllegalArgumentException.class;
    private static final Class<?> STATE = IllegalStateException.class;
    private static final Class<?> INDEX = IndexOutOfBoundsException.class;
    private static final Class<?> MISSING = NoSuchElementException.class;

    private final String setting;
    private final Consumer<BreakersYard> make;

    private RefusalsTest(String setting, Consumer<BreakersYard> make) {
        this.setting = setting;
        this.make = make;
    }

    public static void main(String[] args) {
        new RefusalsTest("new", yard -> { }).ofNew();
        RefusalsTest busy = new RefusalsTest("busy", RefusalsTest::busy);
        busy.sheetsAndFits();
        busy.partsAndCars();
        busy.takesAndPresses();
        busy.itemsOfTheShelf();
        busy.others();
        busy.asks();
        new RefusalsTest("full of sheets", yard -> sheets(yard, 8)).fullOfSheets();
        new RefusalsTest("full tape", RefusalsTest::fullTape).ofFullTape();
        new RefusalsTest("full model", RefusalsTest::fullModel).ofFullModel();
        new RefusalsTest("full yard", RefusalsTest::fullYard).ofFullYard();
        new RefusalsTest("full shelf", RefusalsTest::fullShelf).ofFullShelf();
        new RefusalsTest("last day", RefusalsTest::lastDay).ofLastDay();
        fullOfFits();
        Check.end();
    }

    // ---- How two yards are compared

    private BreakersYard made() {
        BreakersYard yard = new BreakersYard();
        make.accept(yard);
        return yard;
    }

    private void answers(String call, long want, ToLongFunction<BreakersYard> run) {
        BreakersYard yard = made();
        Check.due(setting + ": " + call, run.applyAsLong(yard), want);
        unchanged(call, yard);
    }

    private void throwsOf(String call, Class<?> want, ToLongFunction<BreakersYard> run) {
        BreakersYard yard = made();
        Check.dueThrow(setting + ": " + call, want, () -> run.applyAsLong(yard));
        unchanged(call, yard);
    }

    private void unchanged(String call, BreakersYard yard) {
        Check.same(setting + ": what is seen after " + call, Picture.of(yard), Picture.of(made()));
    }

    // ---- The yards

    private static void sheets(BreakersYard yard, int n) {
        for (int sheet = 0; sheet < n; sheet++) {
            yard.sheet(sheet % 3);
        }
    }

    /**
     * Six parts of each kind in model 0, cars 0 whole, 1 pressed, 2 drained without one, 3 with a taken part; items
     * 0 sold long ago, 1 BAD, 2 sold, 3 a DANGER on the shelf, 4 undone, 5 on the shelf; four acts that can be undone.
     */
    static void busy(BreakersYard yard) {
        yard.sheet(2);
        yard.sheet(0);
        Check.fillRow(yard, 0, 0, 0, 1, -1, 1, 1);
        Check.fillRow(yard, 0, 1, 0, 1, -1, 1, 1, 0, 7, -1, 5, 5);
        Check.fitText(yard, "M0|M1&Ka");
        Check.fitText(yard, "!(Y5-5)");
        for (int kind = 0; kind < 6; kind++) {
            int ahead = kind == 2 ? 1 : -1;
            int fit = kind == 0 ? 1 : -1;
            Check.makePart(yard, 0, kind, kind, ahead, 10, 10 + kind, kind % 4, 800 + kind, fit);
        }
        for (int car = 0; car < 3; car++) {
            yard.car(0, 5, 1, car == 2 ? 1 : 0);
        }
        yard.drain(1);
        yard.papers(1);
        yard.take(1, 0);
        yard.take(1, 1);
        yard.take(1, 3);
        yard.take(1, 4);
        yard.press(1);
        yard.sell(0, 0);
        yard.sell(1, 0);
        yard.back(1, 1);
        yard.day(40);
        yard.sell(2, 0);
        yard.car(0, 1990, 0, 0);
        yard.drain(2);
        yard.papers(2);
        yard.take(2, 1);
        yard.undo();
        yard.take(3, 0);
        yard.drain(3);
        yard.find(0, 0, 4, 0);
        Check.feedText(yard, "M2");
        yard.find(0, 0, 4, 0);
    }

    private static void fullTape(BreakersYard yard) {
        busy(yard);
        for (int i = 0; i < 4; i++) {
            yard.feed(0x4D31267C + i, 0, 0, 0, 0);
        }
    }

    private static void fullModel(BreakersYard yard) {
        Check.plainPart(yard, 0, 5, 1, 1);
        Check.plainParts(yard, 0, 23);
        yard.car(0, 0, 0, 0);
        takeAndFind(yard, 0, 1);
    }

    /** Leaves something to undo, found, and on the tape, for it to be seen that they stay. */
    private static void takeAndFind(BreakersYard yard, int car, int part) {
        yard.take(car, part);
        yard.find(1, 0, 0, 0);
        Check.feedText(yard, "M2");
    }

    private static void fullYard(BreakersYard yard) {
        Check.plainPart(yard, 0, 0, 1, 1);
        for (int car = 0; car < 40; car++) {
            yard.car(0, 0, 0, 0);
        }
        yard.drain(0);
        takeAndFind(yard, 1, 0);
    }

    private static void fullShelf(BreakersYard yard) {
        Check.plainParts(yard, 0, 20);
        Check.plainPart(yard, 0, 3, 1, 1);
        for (int car = 0; car < 4; car++) {
            yard.car(0, 0, 0, 0);
        }
        for (int item = 0; item < 59; item++) {
            yard.take(item / 20, item % 20);
        }
        yard.sell(5, 0);
        yard.drain(3);
        yard.take(3, 0);
        takeAndFind(yard, 3, 1);
    }

    private static void lastDay(BreakersYard yard) {
        Check.plainPart(yard, 0, 0, 1, 1);
        for (int i = 0; i < 100; i++) {
            yard.day(10000);
        }
        yard.car(0, 0, 0, 0);
        yard.papers(0);
    }

    // ---- What they are asked

    private void ofNew() {
        answers("undo", -1, yard -> yard.undo());
        answers("found", -1, yard -> yard.found(0));
        answers("late", -1, yard -> yard.late(0, 0));
        answers("day of 0", 0, yard -> yard.day(0));
        answers("fit of 0", -2, yard -> yard.fit(0));
        answers("find", 0, yard -> yard.find(0, 0, 0, 0));
        answers("count", -1, yard -> yard.count(8));
        answers("till", 0, yard -> yard.till());
        answers("grams", 0, yard -> yard.grams(3, 5));
        throwsOf("fit of 1", ILLEGAL, yard -> yard.fit(1));
        throwsOf("sheet", ILLEGAL, yard -> yard.sheet(3));
        throwsOf("row", INDEX, yard -> yard.row(0, 0, 1));
        throwsOf("put", INDEX, yard -> yard.put(0, 0, 0, 0));
        throwsOf("tear", INDEX, yard -> yard.tear(0, 0));
        throwsOf("says", INDEX, yard -> yard.says(0, 0, 0, 0) ? 1 : 0);
        throwsOf("part", INDEX, yard -> yard.part(0, 0, 0));
        throwsOf("part of no MODEL", ILLEGAL, yard -> yard.part(8, 0, 0));
        throwsOf("told", MISSING, yard -> yard.told(0, 0, 0));
        throwsOf("car", ILLEGAL, yard -> yard.car(0, 0, 0, 0));
        throwsOf("about", MISSING, yard -> yard.about(0, 0));
        throwsOf("drain", MISSING, yard -> yard.drain(0));
        throwsOf("papers", MISSING, yard -> yard.papers(0));
        throwsOf("hinders", MISSING, yard -> yard.hinders(0, 0));
        throwsOf("take", MISSING, yard -> yard.take(0, 0));
        throwsOf("press", MISSING, yard -> yard.press(0));
        throwsOf("item", MISSING, yard -> yard.item(0, 0));
        throwsOf("sell", MISSING, yard -> yard.sell(0, 0));
        throwsOf("back", MISSING, yard -> yard.back(0, 0));
        throwsOf("best", MISSING, yard -> yard.best(0, 0));
        throwsOf("worth", MISSING, yard -> yard.worth(0, 0));
    }

    private void sheetsAndFits() {
        throwsOf("sheet -1", ILLEGAL, yard -> yard.sheet(-1));
        throwsOf("sheet 3", ILLEGAL, yard -> yard.sheet(3));
        answers("row of -1", -1, yard -> yard.row(0, 1, -1));
        answers("row of 13", -1, yard -> yard.row(0, 1, 13));
        answers("row of 13 in a missing one's place", -1, yard -> yard.row(0, 2, 13));
        throwsOf("row of sheet 2", INDEX, yard -> yard.row(2, 1, 3));
        throwsOf("row 16", INDEX, yard -> yard.row(0, 16, 3));
        throwsOf("row -1", INDEX, yard -> yard.row(1, -1, 3));
        answers("put on a missing row", -1, yard -> yard.put(0, 2, 0, 5));
        answers("put behind a row of 10", -2, yard -> yard.put(0, 1, 10, 5));
        answers("put ahead of a row", -2, yard -> yard.put(0, 1, -1, 5));
        throwsOf("put on row 16", INDEX, yard -> yard.put(0, 16, 0, 5));
        throwsOf("put on row -1", INDEX, yard -> yard.put(1, -1, 0, 5));
        answers("tear a missing row", 0, yard -> yard.tear(0, 2));
        throwsOf("tear row 16", INDEX, yard -> yard.tear(0, 16));
        throwsOf("tear row -1", INDEX, yard -> yard.tear(1, -1));
        throwsOf("fit of 21", ILLEGAL, yard -> yard.fit(21));
        throwsOf("fit of -1", ILLEGAL, yard -> yard.fit(-1));
        throwsOf("says of 2", INDEX, yard -> yard.says(2, 0, 0, 0) ? 1 : 0);
    }

    private void partsAndCars() {
        answers("part of a missing row", -1, yard -> yard.part(0, 0, 2));
        answers("part of a row of 6", -2, yard -> yard.part(0, 0, 0));
        answers("part of a second SHELL", -4, yard -> yard.part(0, 0, 15));
        throwsOf("part of model 8", ILLEGAL, yard -> yard.part(8, 0, 1));
        throwsOf("part of sheet 2", INDEX, yard -> yard.part(0, 2, 1));
        throwsOf("told of part 6", MISSING, yard -> yard.told(0, 6, 0));
        throwsOf("told 8", ILLEGAL, yard -> yard.told(0, 0, 8));
        throwsOf("car of model 8", ILLEGAL, yard -> yard.car(8, 0, 0, 0));
        throwsOf("car of no parts", ILLEGAL, yard -> yard.car(1, 0, 0, 0));
        throwsOf("car of year -1", ILLEGAL, yard -> yard.car(0, -1, 0, 0));
        throwsOf("car of year 10000", ILLEGAL, yard -> yard.car(0, 10000, 0, 0));
        throwsOf("car of marks -1", ILLEGAL, yard -> yard.car(0, 0, -1, 0));
        throwsOf("car of marks 256", ILLEGAL, yard -> yard.car(0, 0, 256, 0));
        throwsOf("car lacks part 6", ILLEGAL, yard -> yard.car(0, 0, 0, 64));
        throwsOf("car lacks all", ILLEGAL, yard -> yard.car(0, 0, 0, -1));
    }

    private void takesAndPresses() {
        answers("drain again", 0, yard -> yard.drain(2));
        answers("drain of the PRESSED", 0, yard -> yard.drain(1));
        answers("papers again", 0, yard -> yard.papers(2));
        answers("papers of the PRESSED", 0, yard -> yard.papers(1));
        throwsOf("drain of car 4", MISSING, yard -> yard.drain(4));
        throwsOf("papers of car -1", MISSING, yard -> yard.papers(-1));
        answers("take of the PRESSED", -1, yard -> yard.take(1, 5));
        answers("take of one that lacks", -2, yard -> yard.take(2, 0));
        answers("take of one that is OFF", -2, yard -> yard.take(3, 0));
        answers("take behind its AHEAD", -3, yard -> yard.take(0, 2));
        answers("take undrained", -4, yard -> yard.take(0, 4));
        answers("take the SHELL", -5, yard -> yard.take(0, 5));
        throwsOf("take of part 6", MISSING, yard -> yard.take(0, 6));
        throwsOf("take of car 4", MISSING, yard -> yard.take(4, 0));
        answers("press of the PRESSED", -1, yard -> yard.press(1));
        answers("press undrained", -2, yard -> yard.press(0));
        answers("press without papers", -3, yard -> yard.press(3));
        answers("press with a DANGER", -4, yard -> yard.press(2));
        throwsOf("press of car 4", MISSING, yard -> yard.press(4));
    }

    private void itemsOfTheShelf() {
        throwsOf("item 6", MISSING, yard -> yard.item(6, 0));
        throwsOf("item, 5", ILLEGAL, yard -> yard.item(0, 5));
        throwsOf("find of name 100", ILLEGAL, yard -> yard.find(100, 0, 4, 0));
        throwsOf("find of name -1", ILLEGAL, yard -> yard.find(-1, 0, 4, 0));
        answers("sell one that is sold", -1, yard -> yard.sell(0, 0));
        answers("sell a BAD one", -1, yard -> yard.sell(1, 1));
        answers("sell an undone one", -1, yard -> yard.sell(4, 0));
        answers("sell a DANGER", -2, yard -> yard.sell(3, 0));
        throwsOf("sell for trade 2", ILLEGAL, yard -> yard.sell(5, 2));
        throwsOf("sell for trade -1", ILLEGAL, yard -> yard.sell(5, -1));
        throwsOf("sell item 6", MISSING, yard -> yard.sell(6, 0));
        answers("back of one on the shelf", -1, yard -> yard.back(5, 0));
        answers("back of a BAD one", -1, yard -> yard.back(1, 0));
        answers("back of an undone one", -1, yard -> yard.back(4, 1));
        answers("back too late", -2, yard -> yard.back(0, 0));
        answers("back too late, BAD", -2, yard -> yard.back(0, 1));
        throwsOf("back, bad 2", ILLEGAL, yard -> yard.back(2, 2));
        throwsOf("back, bad -1", ILLEGAL, yard -> yard.back(2, -1));
        throwsOf("back of item 6", MISSING, yard -> yard.back(6, 0));
    }

    private void others() {
        answers("day of 0", 40, yard -> yard.day(0));
        throwsOf("day of -1", ILLEGAL, yard -> yard.day(-1));
        throwsOf("day of 10,001", ILLEGAL, yard -> yard.day(10001));
        throwsOf("late 2", ILLEGAL, yard -> yard.late(2, 0));
        throwsOf("best for -1", ILLEGAL, yard -> yard.best(0, -1));
        throwsOf("worth for 1001", ILLEGAL, yard -> yard.worth(0, 1001));
        throwsOf("best of car 4", MISSING, yard -> yard.best(4, 0));
        throwsOf("worth of car 4", MISSING, yard -> yard.worth(4, 0));
        throwsOf("grams of stuff 4", ILLEGAL, yard -> yard.grams(4, 0));
        throwsOf("grams, 6", ILLEGAL, yard -> yard.grams(0, 6));
        throwsOf("about car 4", MISSING, yard -> yard.about(4, 0));
        throwsOf("about, 8", ILLEGAL, yard -> yard.about(0, 8));
        throwsOf("hinders of part 6", MISSING, yard -> yard.hinders(0, 6));
    }

    private void asks() {
        answers("says", 1, yard -> yard.says(1, 0, 4, 0) ? 1 : 0);
        answers("told", 1, yard -> yard.told(0, 2, 2));
        answers("about", 1990, yard -> yard.about(3, 1));
        answers("hinders", 5, yard -> yard.hinders(0, 5));
        answers("late", 0, yard -> yard.late(0, 0));
        answers("item", 804 - 100, yard -> yard.item(3, 3));
        answers("found", 5, yard -> yard.found(0));
        answers("best", 7, yard -> yard.best(0, 0));
        answers("worth", 800 + 400 + 401, yard -> yard.worth(0, 0));
        answers("grams", 10 + 14, yard -> yard.grams(0, 2));
        answers("count", 4, yard -> yard.count(6));
        answers("till", 800 + 803 - 100, yard -> yard.till());
        answers("find again", 1, yard -> yard.find(0, 0, 4, 0));
    }

    private void fullOfSheets() {
        throwsOf("a ninth sheet", STATE, yard -> yard.sheet(0));
        throwsOf("a ninth sheet of no width", ILLEGAL, yard -> yard.sheet(3));
    }

    private void ofFullTape() {
        answers("feed", -1, yard -> yard.feed(0x4D314D31, 1, 1, 1, 1));
        throwsOf("fit of 101", ILLEGAL, yard -> yard.fit(101));
    }

    private void ofFullModel() {
        answers("a 25th part", -5, yard -> yard.part(0, 0, 15));
        throwsOf("a car lacks a 25th part", ILLEGAL, yard -> yard.car(0, 0, 0, 1 << 24));
    }

    private void ofFullYard() {
        answers("a 41st car", -1, yard -> yard.car(0, 0, 0, 0));
        throwsOf("a 41st car of no year", ILLEGAL, yard -> yard.car(0, 10000, 0, 0));
        throwsOf("about a 41st car", MISSING, yard -> yard.about(40, 0));
    }

    private void ofFullShelf() {
        answers("take to a full shelf", -6, yard -> yard.take(3, 2));
        answers("take of a WET one to a full shelf", -6, yard -> yard.take(3, 20));
        answers("undrained ahead of it", -4, yard -> yard.take(2, 20));
        answers("back to a full shelf", -3, yard -> yard.back(5, 0));
        throwsOf("back to a full shelf, bad 2", ILLEGAL, yard -> yard.back(5, 2));
    }

    private void ofLastDay() {
        throwsOf("a day more", STATE, yard -> yard.day(1));
        throwsOf("10,000 days more", STATE, yard -> yard.day(10000));
        throwsOf("10,001 days more", ILLEGAL, yard -> yard.day(10001));
        answers("no day more", 1000000, yard -> yard.day(0));
    }

    /** A text that comes to nothing empties the tape, and does nothing else. */
    private static void fullOfFits() {
        RefusalsTest full = new RefusalsTest("full of fits", yard -> {
            for (int fit = 0; fit < 30; fit++) {
                Check.fitText(yard, "M" + fit);
            }
        });
        full.answers("a 31st", -1, yard -> Check.fitText(yard, "M1"));
        full.answers("none", -3, yard -> Check.fitText(yard, "M"));
        full.throwsOf("says of a 31st", INDEX, yard -> yard.says(30, 0, 0, 0) ? 1 : 0);
        new RefusalsTest("few fits", yard -> Check.fitText(yard, "M1"))
                .answers("none", -4, yard -> Check.fitText(yard, "M1)"));
    }
}
