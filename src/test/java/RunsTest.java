import java.util.function.LongSupplier;

/** Long runs of thrown calls, compared with the naive yard: every answer and every exception. */
public final class RunsTest {
    private static final int[] PRICES = {0, 1, 7, 99, 100, 799, 800, 5000, 99999, 100000};
    private static final String[] TEXTS = {"M0|M1", "!M2&Ka", "Y5-9|Kb", "!!(M1|Kc)&Y0-9999"};

    private final Dice dice;
    private final BreakersYard yard = new BreakersYard();
    private final NaiveYard naive = new NaiveYard(yard);
    private final int haste;

    private RunsTest(int seed) {
        dice = new Dice(seed);
        haste = dice.below(3);
    }

    public static void main(String[] args) {
        for (int seed = 0; seed < 1500; seed++) {
            RunsTest run = new RunsTest(seed);
            run.prepare();
            for (int call = 0; call < 440; call++) {
                run.call(seed);
            }
            run.gatesAgree(seed);
        }
        Check.end();
    }

    private void prepare() {
        yard.sheet(2);
        for (int i = dice.below(TEXTS.length + 1); i > 0; i--) {
            Check.fitText(yard, TEXTS[i - 1]);
        }
        int models = 1 + dice.below(3);
        for (int model = 0; model < models; model++) {
            for (int more = 1 + dice.below(haste == 0 ? 9 : 6); more > 0; more--) {
                part(model);
            }
        }
    }

    /** A part that fits, as a rule; one that does not must be refused. */
    private void part(int model) {
        int parts = naive.models.get(model).size();
        int[] kinds = {0, 1, 1, 2, 3, 4, 5};
        int kind = kinds[dice.below(kinds.length)];
        int ahead = parts == 0 || dice.oneIn(2) ? -1 : dice.below(parts);
        int[] numbers = {kind, dice.below(3), ahead, 1 + dice.below(dice.oneIn(3) ? 240 : 9),
            1 + dice.below(dice.oneIn(2) ? 200000 : 9), dice.below(4), PRICES[dice.below(PRICES.length)],
            dice.below(yard.count(1) + 1) - 1};
        boolean second = kind == 5 && naive.models.get(model).stream().anyMatch(facts -> facts[0] == 5);
        boolean behind = ahead >= 0 && naive.models.get(model).get(ahead)[0] == 5;
        long[] row = new long[8];
        for (int i = 0; i < 8; i++) {
            row[i] = numbers[i];
        }
        int got = Check.makePart(yard, model, row);
        Check.due("part", got, second || behind ? -4 : parts);
        if (!second && !behind) {
            naive.models.get(model).add(numbers);
        }
    }

    private void same(String call, LongSupplier got, LongSupplier want) {
        Check.due(call + " (its exception)", code(got), code(want));
    }

    /** The answer, or a number far off for an exception of its kind. */
    private static long code(LongSupplier call) {
        try {
            return call.getAsLong();
        } catch (RuntimeException e) {
            return Long.MIN_VALUE + e.getClass().getName().hashCode();
        }
    }

    private void call(int seed) {
        int cars = yard.count(2);
        int items = yard.count(4);
        int car = dice.about(cars);
        int part = dice.about(6);
        int item = dice.oneIn(3) ? dice.about(items) : dice.about(Math.max(items, 1));
        String name = "run " + seed + ", ";
        switch (dice.below(30)) {
            case 0:
            case 1:
                comes(name);
                break;
            case 2:
            case 3:
                same(name + "drain", () -> yard.drain(car), () -> naive.drain(car));
                break;
            case 4:
                same(name + "papers", () -> yard.papers(car), () -> naive.papers(car));
                break;
            case 5:
                same(name + "hinders", () -> yard.hinders(car, part), () -> naive.hinders(car, part));
                break;
            case 6:
                if (haste == 0 || dice.oneIn(4)) {
                    same(name + "press", () -> yard.press(car), () -> naive.press(car));
                }
                break;
            case 7:
                days(name);
                break;
            case 8:
            case 9:
            case 10:
                sells(name, item);
                break;
            case 11:
            case 12:
                int bad = dice.about(2);
                same(name + "back", () -> yard.back(item, bad), () -> naive.back(item, bad));
                break;
            case 13:
            case 14:
                same(name + "undo", () -> yard.undo(), () -> naive.undo());
                break;
            case 15:
            case 16:
            case 17:
            case 18:
                asks(name, car, item);
                break;
            case 19:
                part(dice.below(2));
                break;
            default:
                same(name + "take", () -> yard.take(car, part), () -> naive.take(car, part));
                break;
        }
    }

    private void comes(String name) {
        int model = dice.about(3);
        int year = dice.oneIn(30) ? dice.about(10000) : dice.below(12);
        int marks = dice.about(256);
        int lacks = dice.oneIn(2) ? 0 : dice.about(8);
        same(name + "car", () -> yard.car(model, year, marks, lacks), () -> naive.car(model, year, marks, lacks));
    }

    private void days(String name) {
        int[] steps = {0, 1, 4, 5, 29, 30, 31, 60, 89, 90, 10000, 10001, -1};
        int n = dice.oneIn(3) ? steps[dice.below(steps.length)] : dice.below(12);
        same(name + "day", () -> yard.day(n), () -> naive.day(n));
    }

    private void sells(String name, int item) {
        if (haste == 2 && !dice.oneIn(5)) {
            return;
        }
        int trade = dice.about(2);
        same(name + "sell", () -> yard.sell(item, trade), () -> naive.sell(item, trade));
    }

    private void asks(String name, int car, int item) {
        int what = dice.about(6);
        int k = dice.about(4);
        switch (dice.below(8)) {
            case 0:
                same(name + "about", () -> yard.about(car, what + 2), () -> naive.about(car, what + 2));
                break;
            case 1:
                int wage = dice.oneIn(9) ? dice.about(1001) : dice.below(60);
                same(name + "best", () -> yard.best(car, wage), () -> naive.best(car, wage));
                same(name + "worth", () -> yard.worth(car, wage), () -> naive.worth(car, wage));
                break;
            case 2:
                same(name + "late", () -> yard.late(what, k), () -> naive.late(what, k));
                break;
            case 3:
            case 4:
                same(name + "item", () -> yard.item(item, what), () -> naive.item(item, what));
                break;
            case 5:
                same(name + "grams", () -> yard.grams(k, what), () -> naive.grams(k, what));
                same(name + "till", () -> yard.till(), () -> naive.till());
                break;
            case 6:
                same(name + "count", () -> yard.count(what + 2), () -> naive.count(what + 2));
                break;
            default:
                finds(name);
                break;
        }
    }

    private void finds(String name) {
        int wanted = dice.oneIn(20) ? dice.about(100) : dice.below(3);
        int model = dice.about(4);
        int year = dice.below(12);
        int marks = dice.about(16);
        same(name + "find", () -> yard.find(wanted, model, year, marks), () -> naive.find(wanted, model, year, marks));
        for (int i = -1; i <= yard.count(3); i++) {
            int k = i;
            same(name + "found", () -> yard.found(k), () -> naive.found(k));
        }
    }

    /** What came is all somewhere. */
    private void gatesAgree(int seed) {
        for (int stuff = 0; stuff < 4; stuff++) {
            long sum = 0;
            for (int what = 1; what < 6; what++) {
                sum += yard.grams(stuff, what);
                Check.due("grams " + what, yard.grams(stuff, what), naive.grams(stuff, what));
            }
            Check.due("run " + seed + ", all grams of " + stuff, sum, yard.grams(stuff, 0));
        }
        for (int item = 0; item < yard.count(4); item++) {
            for (int what = 0; what < 5; what++) {
                Check.due("run " + seed + ", item", yard.item(item, what), naive.item(item, what));
            }
        }
    }
}
