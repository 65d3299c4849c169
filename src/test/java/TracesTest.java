import java.util.Arrays;
import java.util.function.Consumer;
import java.util.function.ToLongFunction;
import java.util.stream.Collectors;

/**
 * Each call that does something leaves all else alone: two yards are made alike, one gets the call, and then their
 * Pictures are compared but for the lines that the call is for.
 */
public final class TracesTest {
    private static final Consumer<BreakersYard> BUSY = RefusalsTest::busy;

    // The lines of a Picture that another act changes by leaving none to be undone.
    private static final String[] FORGOTTEN = {"count 6", "undo", "undone", "shelf"};

    private TracesTest() {
    }

    public static void main(String[] args) {
        sheets();
        fits();
        cars();
        takes();
        shelf();
        undos();
        asks();
        Check.end();
    }

    /** Own are the beginnings of the lines that may differ, and one of them must. */
    private static void traces(Consumer<BreakersYard> make, String call, long want, ToLongFunction<BreakersYard> run,
            String... own) {
        BreakersYard yard = made(make);
        Check.due(call, run.applyAsLong(yard), want);
        String after = Picture.of(yard);
        String before = Picture.of(made(make));
        Check.same("what " + call + " leaves", without(after, own), without(before, own));
        Check.due(call + " does something", after.equals(before), own.length == 0);
    }

    private static void busy(String call, long want, ToLongFunction<BreakersYard> run, String... own) {
        traces(BUSY, call, want, run, own);
    }

    private static BreakersYard made(Consumer<BreakersYard> make) {
        BreakersYard yard = new BreakersYard();
        make.accept(yard);
        return yard;
    }

    private static String without(String picture, String... own) {
        return picture.lines().filter(line -> !isOwn(line, own)).collect(Collectors.joining("\n"));
    }

    private static boolean isOwn(String line, String... own) {
        return Arrays.stream(own).anyMatch(start -> line.startsWith(start + " "));
    }

    private static String[] andForgotten(String... own) {
        String[] both = Arrays.copyOf(own, own.length + FORGOTTEN.length);
        System.arraycopy(FORGOTTEN, 0, both, own.length, FORGOTTEN.length);
        return both;
    }

    private static void sheets() {
        busy("sheet", 2, yard -> yard.sheet(1), "count 0");
        busy("row in a missing one's place", 7, yard -> yard.row(0, 2, 7), "row 0 2");
        busy("row in another's place", 3, yard -> yard.row(0, 1, 3), "row 0", "told 7");
        busy("put", 1, yard -> yard.put(0, 1, 6, 8), "told 7 0 6");
        busy("tear", 1, yard -> yard.tear(0, 0), "row 0 0");
        busy("part", 0, yard -> yard.part(1, 0, 1), "told 1 0");
        busy("part of the cars' model", 6, yard -> yard.part(0, 0, 1));
        busy("part with a number beyond", -3, yard -> yard.put(0, 1, 3, 0) - 1 + yard.part(0, 0, 1), "row 0", "told 7");
    }

    private static void fits() {
        busy("feed", 40, yard -> yard.feed(1, 2, 3, 4, 5), "count 7", "tape");
        busy("fit", 2, yard -> yard.fit(2), "count 1", "count 7", "tape", "says 2");
        busy("fit of none", -3, yard -> yard.fit(1), "count 7", "tape");
    }

    private static void cars() {
        busy("car", 4, yard -> yard.car(0, 5, 1, 0),
                andForgotten("count 2", "grams 0 0", "grams 0 1", "grams 1 0", "grams 1 1", "grams 2 0", "grams 2 1",
                        "grams 3 0", "grams 3 1"));
        busy("drain", 1, yard -> yard.drain(0), "count 6", "about 0 4", "best 0", "late", "undo");
        busy("papers", 1, yard -> yard.papers(0), "count 6", "about 0 5", "undo");
        busy("day", 41, yard -> yard.day(1), andForgotten("count 5"));
    }

    private static void takes() {
        busy("take", 6, yard -> yard.take(0, 1), "count 3", "count 4", "count 6", "grams 1 1", "grams 1 2", "about 0 3",
                "best 0", "item 6", "undo");
        traces(yard -> {
            BUSY.accept(yard);
            yard.take(2, 4);
        }, "press", 11 + 12 + 13 + 15, yard -> yard.press(2),
                andForgotten("about 2 3", "about 2 6", "best 2", "grams 0 1", "grams 0 4", "grams 1 1", "grams 1 4",
                        "grams 2 1", "grams 2 4", "grams 3 1", "grams 3 4"));
    }

    private static void shelf() {
        busy("find", 1, yard -> yard.find(4, 0, 0, 0), "found 0");
        busy("find of none", 0, yard -> yard.find(9, 0, 0, 0), "found 0");
        busy("sell", 800, yard -> yard.sell(5, 0), andForgotten("count 3", "till", "grams 0 2", "grams 0 3", "item 5"));
        busy("sell a DANGER", 704, yard -> yard.sell(3, 1),
                andForgotten("count 3", "till", "grams 0 2", "grams 0 3", "item 3"));
        busy("back", 703, yard -> yard.back(2, 0), andForgotten("count 3", "till", "grams 3 2", "grams 3 3", "item 2"));
        busy("back, BAD", 703, yard -> yard.back(2, 1), andForgotten("till", "grams 3 3", "grams 3 5", "item 2"));
        Consumer<BreakersYard> onePair = yard -> {
            BUSY.accept(yard);
            yard.take(0, 1);
        };
        traces(onePair, "sell one of a PAIR", 400, yard -> yard.sell(6, 0),
                andForgotten("count 3", "till", "grams 1 2", "grams 1 3", "item 6"));
        traces(TracesTest::pair, "sell a PAIR", 20, yard -> yard.sell(1, 0),
                andForgotten("count 3", "till", "grams 0 2", "grams 0 3", "item 0", "item 1"));
    }

    /** A PAIR on the shelf that was found, bytes on the tape. */
    private static void pair(BreakersYard yard) {
        Check.plainPart(yard, 0, 1, 1, 10);
        Check.plainPart(yard, 0, 1, 1, 10);
        yard.car(0, 0, 0, 0);
        yard.take(0, 0);
        yard.take(0, 1);
        yard.find(1, 0, 0, 0);
        Check.feedText(yard, "M2");
    }

    private static void undos() {
        busy("undo of a DRAIN", 1, yard -> yard.undo(), "count 6", "about 3 4", "best 3", "late", "undo");
        Consumer<BreakersYard> withoutDrain = yard -> {
            BUSY.accept(yard);
            yard.undo();
        };
        traces(withoutDrain, "undo of a TAKE", 3, yard -> yard.undo(), "count 3", "count 6", "grams 0 1", "grams 0 2",
                "about 3 3", "best 3", "item 5", "undo");
        traces(withoutDrain.andThen(BreakersYard::undo), "undo of PAPERS", 2, yard -> yard.undo(), "count 6",
                "about 2 5", "undo");
        traces(TracesTest::pair, "undo", 3, yard -> yard.undo(), "count 3", "count 6", "grams 0 1", "grams 0 2",
                "about 0 3", "best 0", "item 1", "undo");
    }

    /** Whatever it answers, a call that only asks does nothing. */
    private static void asks() {
        for (int n = -1; n < 9; n++) {
            int k = n;
            asks("told " + k, k < 0 || k > 7, yard -> yard.told(0, 2, k));
            asks("about " + k, k < 0 || k > 7, yard -> yard.about(3, k));
            asks("item " + k, k < 0 || k > 4, yard -> yard.item(5, k));
            asks("item sold " + k, k < 0 || k > 4, yard -> yard.item(2, k));
            asks("grams " + k, k < 0 || k > 5, yard -> yard.grams(0, k));
            asks("count " + k, false, yard -> yard.count(k));
            asks("found " + k, false, yard -> yard.found(k));
            asks("late " + k, false, yard -> yard.late(0, k));
            asks("late to be PRESSED " + k, false, yard -> yard.late(1, k));
            asks("hinders " + k, k < 0 || k > 5, yard -> yard.hinders(0, k));
        }
    }

    private static void asks(String call, boolean throwsOne, ToLongFunction<BreakersYard> run) {
        BreakersYard yard = made(BUSY);
        boolean thrown = false;
        try {
            run.applyAsLong(yard);
        } catch (RuntimeException e) {
            thrown = true;
        }
        Check.due(call + " throws", thrown, throwsOne);
        Check.same("what " + call + " leaves", Picture.of(yard), Picture.of(made(BUSY)));
    }
}
