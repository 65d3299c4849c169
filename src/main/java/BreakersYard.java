import java.util.Arrays;
import java.util.NoSuchElementException;

/** A breaker's yard: cars come whole and go out in parts. README.md tells how to use it. */
public final class BreakersYard {
    public static final int NONE = -1;

    // The numbers of a PART, as its ROW has them and told() asks for them.
    private static final int KIND = 0;
    private static final int NAME = 1;
    private static final int AHEAD = 2;
    private static final int MINUTES = 3;
    private static final int GRAMS = 4;
    private static final int STUFF = 5;
    private static final int PRICE = 6;
    private static final int FIT = 7;
    private static final int FACTS = 8;
    private static final int SHORTEST_ROW = 7;

    private static final int PAIR = 1;
    private static final int CORE = 2;
    private static final int WET = 3;
    private static final int DANGER = 4;
    private static final int SHELL = 5;

    // Where an ITEM is, as item() answers; one that is undone is at its car again.
    private static final int SHELF = 0;
    private static final int SOLD = 1;
    private static final int BAD = 2;
    private static final int AT_CAR = 3;

    // Where GRAMS are, as grams() asks for them.
    private static final int GRAMS_CAME = 0;
    private static final int GRAMS_ON = 1;
    private static final int GRAMS_SHELF = 2;
    private static final int GRAMS_SOLD = 3;
    private static final int GRAMS_PRESSED = 4;
    private static final int GRAMS_BAD = 5;
    private static final int GATES = 6;

    // The acts that can be undone, as undo() answers them.
    private static final int DRAIN = 1;
    private static final int PAPERS = 2;
    private static final int TAKE = 3;

    private static final int LAST_NAME = 99;
    private static final int LAST_YEAR = 9999;
    private static final int LAST_MARKS = 255;
    private static final int LAST_WAGE = 1000;
    private static final int LAST_DAY = 1000000;
    private static final int MOST_DAYS = 10000;
    private static final int MOST_CARS = 40;
    private static final int MOST_ITEMS = 400;
    private static final int MOST_SHELVED = 60;
    private static final int STUFFS = 4;
    private static final int DRAIN_DAYS = 5;
    private static final int PRESS_DAYS = 90;
    private static final int BACK_DAYS = 30;
    private static final int FALL_DAYS = 30;
    private static final int MOST_FALLS = 24;

    private final Sheets sheets = new Sheets();
    private final Fits fits = new Fits();
    private final Models models = new Models();
    private final Acts acts = new Acts();
    private final Findings findings = new Findings();
    private final Car[] cars = new Car[MOST_CARS];
    private final Item[] items = new Item[MOST_ITEMS];
    private final int[] weights = new int[STUFFS * GATES];
    private final int[] gains = new int[Models.MOST_PARTS];
    private int carCount = 0;
    private int itemCount = 0;
    private int shelved = 0;
    private int today = 0;
    private long paidInAll = 0;

    public BreakersYard() {
    }

    // ---- Promises 2 to 5: sheets and rows

    public int sheet(int width) throws IllegalArgumentException, IllegalStateException {
        if (!Sheets.isWidth(width)) {
            throw new IllegalArgumentException("no such WIDTH");
        }
        int number = sheets.open(width);
        if (number == NONE) {
            throw new IllegalStateException("there are 8 SHEETS");
        }
        return number;
    }

    public int row(int sheet, int k, int n) throws IndexOutOfBoundsException {
        int slot = slotOf(sheet, k);
        if (n < 0 || n > Sheets.LONGEST) {
            return NONE;
        }
        sheets.renew(slot, n);
        return n;
    }

    public int put(int sheet, int k, int i, long v) throws IndexOutOfBoundsException {
        int slot = slotOf(sheet, k);
        if (sheets.lengthAt(slot) == Sheets.MISSING) {
            return -1;
        }
        return sheets.write(slot, i, v) ? 1 : -2;
    }

    public int tear(int sheet, int k) throws IndexOutOfBoundsException {
        int slot = slotOf(sheet, k);
        if (sheets.lengthAt(slot) == Sheets.MISSING) {
            return 0;
        }
        sheets.renew(slot, Sheets.MISSING);
        return 1;
    }

    private int slotOf(int sheet, int k) {
        int slot = sheets.slotAt(sheet, k);
        if (slot == NONE) {
            throw new IndexOutOfBoundsException("no such SHEET or ROW");
        }
        return slot;
    }

    // ---- Promises 6 to 8: the tape and the fits

    public int feed(int a, int b, int c, int d, int e) {
        if (!fits.hasRoomToFeed()) {
            return NONE;
        }
        fits.append(a);
        fits.append(b);
        fits.append(c);
        fits.append(d);
        fits.append(e);
        return fits.fed();
    }

    public int fit(int n) throws IllegalArgumentException {
        if (n < 0 || n > fits.fed()) {
            throw new IllegalArgumentException("not so many bytes on the TAPE");
        }
        return fits.readTape(n);
    }

    public boolean says(int fit, int model, int year, int marks) throws IndexOutOfBoundsException {
        if (fit < 0 || fit >= fits.made()) {
            throw new IndexOutOfBoundsException("no such FIT");
        }
        return fits.holds(fit, model, year, marks);
    }

    // ---- Promises 9 and 10: the parts of models

    public int part(int model, int sheet, int k) throws IllegalArgumentException, IndexOutOfBoundsException {
        if (!Models.isModel(model)) {
            throw new IllegalArgumentException("no such MODEL");
        }
        int slot = slotOf(sheet, k);
        int length = sheets.lengthAt(slot);
        if (length == Sheets.MISSING) {
            return -1;
        }
        if (length < SHORTEST_ROW) {
            return -2;
        }
        if (hasNumberBeyond(model, slot)) {
            return -3;
        }
        if (breaksShellRule(model, slot)) {
            return -4;
        }
        if (models.partsOf(model) >= Models.MOST_PARTS) {
            return -5;
        }
        return addPart(model, slot);
    }

    public int told(int model, int part, int what) throws NoSuchElementException, IllegalArgumentException {
        if (part < 0 || part >= models.partsOf(model)) {
            throw new NoSuchElementException("no such PART");
        }
        if (what < 0 || what >= FACTS) {
            throw new IllegalArgumentException("no such what");
        }
        return models.factOf(model, part, what);
    }

    /** What a ROW says for a PART; a ROW of 7 numbers says no FIT. */
    private long rowSays(int slot, int what) {
        return what < sheets.lengthAt(slot) ? sheets.read(slot, what) : NONE;
    }

    private boolean hasNumberBeyond(int model, int slot) {
        for (int what = 0; what < FACTS; what++) {
            if (isBeyond(model, what, rowSays(slot, what))) {
                return true;
            }
        }
        return false;
    }

    private boolean isBeyond(int model, int what, long v) {
        switch (what) {
            case KIND:
                return v < 0 || v > SHELL;
            case NAME:
                return v < 0 || v > LAST_NAME;
            case AHEAD:
                return v < NONE || v >= models.partsOf(model);
            case MINUTES:
                return v < 1 || v > 240;
            case GRAMS:
                return v < 1 || v > 200000;
            case STUFF:
                return v < 0 || v >= STUFFS;
            case PRICE:
                return v < 0 || v > 100000;
            default:
                return v < NONE || v >= fits.made();
        }
    }

    private boolean breaksShellRule(int model, int slot) {
        if (rowSays(slot, KIND) == SHELL && models.hasShell(model)) {
            return true;
        }
        int ahead = (int) rowSays(slot, AHEAD);
        return models.factOf(model, ahead, KIND) == SHELL;
    }

    private int addPart(int model, int slot) {
        int part = models.add(model);
        for (int what = 0; what < FACTS; what++) {
            models.store(model, part, what, (int) rowSays(slot, what));
        }
        return part;
    }

    // ---- Promises 11 to 14: cars

    public int car(int model, int year, int marks, int lacks) throws IllegalArgumentException {
        int parts = models.partsOf(model);
        if (parts == 0) {
            throw new IllegalArgumentException("no such MODEL, or one without PARTS");
        }
        if (year < 0 || year > LAST_YEAR || marks < 0 || marks > LAST_MARKS) {
            throw new IllegalArgumentException("YEAR or MARKS beyond");
        }
        int whole = (1 << parts) - 1;
        if ((lacks & ~whole) != 0) {
            throw new IllegalArgumentException("it lacks what is no PART of it");
        }
        if (carCount < 0 || carCount >= cars.length) {
            return NONE;
        }
        Car come = new Car(model, year, marks, parts, whole & ~lacks, today);
        cars[carCount] = come;
        carCount++;
        weighComing(come);
        acts.forget();
        return carCount - 1;
    }

    public int about(int car, int what) throws NoSuchElementException, IllegalArgumentException {
        Car asked = carOf(car);
        switch (what) {
            case 0:
                return asked.model;
            case 1:
                return asked.year;
            case 2:
                return asked.marks;
            case 3:
                return asked.on;
            case 4:
                return asked.drained ? 1 : 0;
            case 5:
                return asked.ended ? 1 : 0;
            case 6:
                return asked.pressed ? 1 : 0;
            case 7:
                return asked.came;
            default:
                throw new IllegalArgumentException("no such what");
        }
    }

    public int drain(int car) throws NoSuchElementException {
        Car drained = carOf(car);
        if (drained.drained || drained.pressed) {
            return 0;
        }
        drained.drained = true;
        acts.remember(DRAIN, car);
        return 1;
    }

    public int papers(int car) throws NoSuchElementException {
        Car ended = carOf(car);
        if (ended.ended || ended.pressed) {
            return 0;
        }
        ended.ended = true;
        acts.remember(PAPERS, car);
        return 1;
    }

    /** The car with that number, or null. */
    private Car carAt(int car) {
        return car >= 0 && car < carCount && car < cars.length ? cars[car] : null;
    }

    private Car carOf(int car) {
        Car there = carAt(car);
        if (there == null) {
            throw new NoSuchElementException("no such CAR");
        }
        return there;
    }

    private Car carWithPart(int car, int part) {
        Car there = carOf(car);
        if (part < 0 || part >= there.parts) {
            throw new NoSuchElementException("no such PART of the CAR");
        }
        return there;
    }

    private void weighComing(Car come) {
        for (int part = 0; part < come.parts; part++) {
            if (come.isOn(part)) {
                weigh(come.model, part, GRAMS_CAME, 1);
                weigh(come.model, part, GRAMS_ON, 1);
            }
        }
    }

    // ---- Promises 15 to 17: parts come off, what is left is pressed

    public int hinders(int car, int part) throws NoSuchElementException {
        return hindranceOf(carWithPart(car, part), part);
    }

    public int take(int car, int part) throws NoSuchElementException {
        Car from = carWithPart(car, part);
        int hindrance = hindranceOf(from, part);
        if (hindrance != 0) {
            return -hindrance;
        }
        int number = addItem(new Item(car, from.model, part));
        from.on &= ~(1 << part);
        acts.remember(TAKE, number);
        return number;
    }

    public int press(int car) throws NoSuchElementException {
        Car hull = carOf(car);
        int hindrance = pressHindranceOf(hull);
        if (hindrance != 0) {
            return -hindrance;
        }
        int sum = 0;
        for (int part = 0; part < hull.parts; part++) {
            if (hull.isOn(part)) {
                weigh(hull.model, part, GRAMS_ON, -1);
                weigh(hull.model, part, GRAMS_PRESSED, 1);
                sum += models.factOf(hull.model, part, GRAMS);
            }
        }
        hull.on = 0;
        hull.pressed = true;
        acts.forget();
        return sum;
    }

    private int hindranceOf(Car car, int part) {
        int kind = models.factOf(car.model, part, KIND);
        int ahead = models.factOf(car.model, part, AHEAD);
        if (car.pressed) {
            return 1;
        }
        if (!car.isOn(part)) {
            return 2;
        }
        if (car.isOn(ahead)) {
            return 3;
        }
        if (needsDraining(kind) && !car.drained) {
            return 4;
        }
        if (kind == SHELL && car.on != 1 << part) {
            return 5;
        }
        if (shelved >= MOST_SHELVED) {
            return 6;
        }
        return itemCount >= MOST_ITEMS ? 7 : 0;
    }

    private int pressHindranceOf(Car car) {
        if (car.pressed) {
            return 1;
        }
        if (!car.drained) {
            return 2;
        }
        if (!car.ended) {
            return 3;
        }
        return hasDangerOn(car) ? 4 : 0;
    }

    private boolean hasDangerOn(Car car) {
        for (int part = 0; part < car.parts; part++) {
            if (car.isOn(part) && models.factOf(car.model, part, KIND) == DANGER) {
                return true;
            }
        }
        return false;
    }

    private static boolean needsDraining(int kind) {
        return kind == WET || kind == DANGER;
    }

    // ---- Promises 18 and 19: days

    public int day(int n) throws IllegalArgumentException, IllegalStateException {
        if (n < 0 || n > MOST_DAYS) {
            throw new IllegalArgumentException("DAYS are 0 to 10,000 at a time");
        }
        if (today + n > LAST_DAY) {
            throw new IllegalStateException("the DAY would be above 1,000,000");
        }
        if (n > 0) {
            today += n;
            acts.forget();
        }
        return today;
    }

    public int late(int what, int k) throws IllegalArgumentException {
        if (what != 0 && what != 1) {
            throw new IllegalArgumentException("no such what");
        }
        int before = 0;
        for (int car = 0; car < carCount; car++) {
            if (isLate(carAt(car), what)) {
                if (before == k) {
                    return car;
                }
                before++;
            }
        }
        return NONE;
    }

    private boolean isLate(Car car, int what) {
        if (car == null) {
            return false;
        }
        int gone = today - car.came;
        return what == 0 ? !car.drained && gone >= DRAIN_DAYS : !car.pressed && gone >= PRESS_DAYS;
    }

    // ---- Promises 20 to 22: items on the shelf

    public int item(int item, int what) throws NoSuchElementException, IllegalArgumentException {
        Item asked = itemOf(item);
        switch (what) {
            case 0:
                return asked.car;
            case 1:
                return asked.part;
            case 2:
                return asked.where;
            case 3:
                return asked.where == SHELF ? valueOf(asked) : asked.where == SOLD ? asked.paid : 0;
            case 4:
                return asked.since;
            default:
                throw new IllegalArgumentException("no such what");
        }
    }

    public int find(int name, int model, int year, int marks) throws IllegalArgumentException {
        if (name < 0 || name > LAST_NAME) {
            throw new IllegalArgumentException("NAME is not 0 to 99");
        }
        findings.clear();
        for (int number = 0; number < itemCount; number++) {
            Item here = itemAt(number);
            if (here != null && here.where == SHELF && factOf(here, NAME) == name
                    && standsFor(here, model, year, marks)) {
                findings.insert(number, here.model == model, valueOf(here));
            }
        }
        return findings.size();
    }

    public int found(int k) {
        return findings.numberAt(k);
    }

    /** The item with that number, or null. */
    private Item itemAt(int item) {
        return item >= 0 && item < itemCount && item < items.length ? items[item] : null;
    }

    private Item itemOf(int item) {
        Item there = itemAt(item);
        if (there == null) {
            throw new NoSuchElementException("no such ITEM");
        }
        return there;
    }

    private int addItem(Item item) {
        if (itemCount < 0 || itemCount >= items.length) {
            return NONE;
        }
        items[itemCount] = item;
        itemCount++;
        move(item, SHELF);
        return itemCount - 1;
    }

    private int factOf(Item item, int what) {
        return models.factOf(item.model, item.part, what);
    }

    private boolean standsFor(Item item, int model, int year, int marks) {
        int fit = factOf(item, FIT);
        return fit == NONE ? item.model == model : fits.holds(fit, model, year, marks);
    }

    private int valueOf(Item item) {
        int price = factOf(item, PRICE);
        int value = factOf(item, KIND) == CORE ? price / 2 : price;
        int falls = Math.min((today - item.since) / FALL_DAYS, MOST_FALLS);
        for (int fall = 0; fall < falls; fall++) {
            value -= value / 8;
        }
        return value;
    }

    /** An item goes from where it is to another place, with its grams. */
    private void move(Item item, int where) {
        weigh(item.model, item.part, gateOf(item.where), -1);
        weigh(item.model, item.part, gateOf(where), 1);
        if (item.where == SHELF) {
            shelved--;
        }
        if (where == SHELF) {
            shelved++;
        }
        item.where = where;
        item.since = today;
    }

    private static int gateOf(int where) {
        switch (where) {
            case SHELF:
                return GRAMS_SHELF;
            case SOLD:
                return GRAMS_SOLD;
            case BAD:
                return GRAMS_BAD;
            default:
                return GRAMS_ON;
        }
    }

    // ---- Promises 23, 24 and 29: selling

    public int sell(int item, int trade) throws NoSuchElementException, IllegalArgumentException {
        Item wanted = itemOf(item);
        if (trade != 0 && trade != 1) {
            throw new IllegalArgumentException("trade is not 0 or 1");
        }
        if (wanted.where != SHELF) {
            return -1;
        }
        int kind = factOf(wanted, KIND);
        if (kind == DANGER && trade == 0) {
            return -2;
        }
        acts.forget();
        if (kind != PAIR) {
            return sellFor(wanted, valueOf(wanted));
        }
        Item other = otherOfPair(wanted);
        if (other == null) {
            return sellFor(wanted, valueOf(wanted) / 2);
        }
        return sellFor(wanted, valueOf(wanted)) + sellFor(other, valueOf(other));
    }

    public int back(int item, int bad) throws NoSuchElementException, IllegalArgumentException {
        Item returned = itemOf(item);
        if (bad != 0 && bad != 1) {
            throw new IllegalArgumentException("bad is not 0 or 1");
        }
        if (returned.where != SOLD) {
            return -1;
        }
        if (today - returned.since > BACK_DAYS) {
            return -2;
        }
        if (bad == 0 && shelved >= MOST_SHELVED) {
            return -3;
        }
        move(returned, bad == 1 ? BAD : SHELF);
        paidInAll -= returned.paid;
        acts.forget();
        return returned.paid;
    }

    public long till() {
        return paidInAll;
    }

    private int sellFor(Item item, int price) {
        move(item, SOLD);
        item.paid = price;
        paidInAll += price;
        return price;
    }

    /** The item that goes with one of a pair, or null. */
    private Item otherOfPair(Item one) {
        for (int number = 0; number < itemCount; number++) {
            Item other = itemAt(number);
            if (other != null && other != one && other.where == SHELF && other.car == one.car
                    && factOf(other, KIND) == PAIR && factOf(other, NAME) == factOf(one, NAME)) {
                return other;
            }
        }
        return null;
    }

    // ---- Promises 25 and 26: what is best taken off

    public int best(int car, int wage) throws NoSuchElementException, IllegalArgumentException {
        return bestOf(carOf(car), wageOf(wage));
    }

    public int worth(int car, int wage) throws NoSuchElementException, IllegalArgumentException {
        Car asked = carOf(car);
        int chosen = bestOf(asked, wageOf(wage));
        int sum = 0;
        for (int part = 0; part < asked.parts; part++) {
            if ((chosen >> part & 1) != 0) {
                sum += gainOf(asked, part, wage);
            }
        }
        return sum;
    }

    private static int wageOf(int wage) {
        if (wage < 0 || wage > LAST_WAGE) {
            throw new IllegalArgumentException("no such WAGE");
        }
        return wage;
    }

    /**
     * AHEADs make trees, and an AHEAD's number is always the lower: so one way down the numbers tells what
     * each part gains with all that is worth taking behind it, and one way up takes what gains something
     * (not what gains 0: that would only cost minutes).
     */
    private int bestOf(Car car, int wage) {
        sumGains(car, wage);
        int chosen = 0;
        for (int part = 0; part < car.parts && part < gains.length; part++) {
            int ahead = models.factOf(car.model, part, AHEAD);
            boolean reached = !car.isOn(ahead) || (chosen >> ahead & 1) != 0;
            if (mayBeChosen(car, part) && reached && gains[part] > 0) {
                chosen |= 1 << part;
            }
        }
        return chosen;
    }

    private void sumGains(Car car, int wage) {
        Arrays.fill(gains, 0);
        for (int part = Math.min(car.parts, gains.length) - 1; part >= 0; part--) {
            if (mayBeChosen(car, part)) {
                gains[part] += gainOf(car, part, wage);
                int ahead = models.factOf(car.model, part, AHEAD);
                if (gains[part] > 0 && ahead >= 0 && ahead < gains.length) {
                    gains[ahead] += gains[part];
                }
            }
        }
    }

    private boolean mayBeChosen(Car car, int part) {
        int kind = models.factOf(car.model, part, KIND);
        return car.isOn(part) && kind != SHELL && (car.drained || !needsDraining(kind));
    }

    /** What a part alone gains: of a core or a pair the half. */
    private int gainOf(Car car, int part, int wage) {
        int kind = models.factOf(car.model, part, KIND);
        int price = models.factOf(car.model, part, PRICE);
        int income = kind == CORE || kind == PAIR ? price / 2 : price;
        return income - models.factOf(car.model, part, MINUTES) * wage;
    }

    // ---- Promises 27 and 28: grams and counts

    public int grams(int stuff, int what) throws IllegalArgumentException {
        int place = weightPlace(stuff, what);
        if (place == NONE) {
            throw new IllegalArgumentException("no such STUFF or what");
        }
        return weights[place];
    }

    public int count(int what) {
        switch (what) {
            case 0:
                return sheets.made();
            case 1:
                return fits.made();
            case 2:
                return carCount;
            case 3:
                return shelved;
            case 4:
                return itemCount;
            case 5:
                return today;
            case 6:
                return acts.held();
            case 7:
                return fits.fed();
            default:
                return NONE;
        }
    }

    private int weightPlace(int stuff, int gate) {
        boolean there = stuff >= 0 && stuff < STUFFS && gate >= 0 && gate < GATES;
        int place = stuff * GATES + gate;
        return there && place >= 0 && place < weights.length ? place : NONE;
    }

    /** A part's grams are added (times 1) or taken away (times -1) at a gate. */
    private void weigh(int model, int part, int gate, int times) {
        int place = weightPlace(models.factOf(model, part, STUFF), gate);
        if (place != NONE) {
            weights[place] += times * models.factOf(model, part, GRAMS);
        }
    }

    // ---- Promise 30: undo

    public int undo() {
        int act = acts.latestAct();
        int number = acts.latestNumber();
        acts.dropLatest();
        if (act == TAKE) {
            putBackOn(itemAt(number));
            return act;
        }
        Car car = carAt(number);
        if (car != null && act == DRAIN) {
            car.drained = false;
        }
        if (car != null && act == PAPERS) {
            car.ended = false;
        }
        return act;
    }

    private void putBackOn(Item item) {
        if (item == null) {
            return;
        }
        move(item, AT_CAR);
        Car car = carAt(item.car);
        if (car != null) {
            car.on |= 1 << item.part;
        }
    }

    /** All rows of all sheets; their room is made once, so that a call makes no object. */
    private static final class Sheets {
        static final int LONGEST = 12;
        static final int MISSING = -1;
        private static final int MOST = 8;
        private static final int ROWS = 16;

        private final int[] widths = new int[MOST];
        private final int[] lengths = new int[MOST * ROWS];
        private final long[] numbers = new long[MOST * ROWS * LONGEST];
        private int count = 0;

        Sheets() {
            Arrays.fill(lengths, MISSING);
        }

        static boolean isWidth(int width) {
            return width >= 0 && width <= 2;
        }

        int made() {
            return count;
        }

        int open(int width) {
            if (count < 0 || count >= widths.length) {
                return NONE;
            }
            widths[count] = width;
            count++;
            return count - 1;
        }

        int slotAt(int sheet, int k) {
            return sheet >= 0 && sheet < count && k >= 0 && k < ROWS ? sheet * ROWS + k : NONE;
        }

        int lengthAt(int slot) {
            return slot >= 0 && slot < lengths.length ? lengths[slot] : MISSING;
        }

        void renew(int slot, int length) {
            if (slot < 0 || slot >= lengths.length) {
                return;
            }
            lengths[slot] = length;
            for (int i = 0; i < length; i++) {
                write(slot, i, 0);
            }
        }

        /** Whether there is such a place to write on. */
        boolean write(int slot, int i, long v) {
            int place = placeOf(slot, i);
            if (place == NONE) {
                return false;
            }
            numbers[place] = lowestBits(slot, v);
            return true;
        }

        long read(int slot, int i) {
            int place = placeOf(slot, i);
            return place == NONE ? 0 : numbers[place];
        }

        private int placeOf(int slot, int i) {
            int place = slot * LONGEST + i;
            return i >= 0 && i < lengthAt(slot) && place >= 0 && place < numbers.length ? place : NONE;
        }

        private long lowestBits(int slot, long v) {
            int sheet = slot / ROWS;
            int width = sheet >= 0 && sheet < widths.length ? widths[sheet] : 2;
            if (width == 0) {
                return (short) v;
            }
            return width == 1 ? (int) v : v;
        }
    }

    /** The tape, and the fits that were read from it, each kept as the steps of its reader. */
    private static final class Fits {
        private static final int MOST = 30;
        private static final int TAPE = 100;
        private static final int FEED = 20;

        private final byte[] tape = new byte[TAPE];
        private final FitReader reader = new FitReader();
        private final int[] steps = new int[MOST * FitReader.MOST_STEPS];
        private final int[] sizes = new int[MOST];
        private int count = 0;
        private int bytes = 0;

        int made() {
            return count;
        }

        int fed() {
            return bytes;
        }

        boolean hasRoomToFeed() {
            return bytes + FEED <= TAPE;
        }

        void append(int four) {
            for (int shift = 24; shift >= 0; shift -= 8) {
                if (bytes >= 0 && bytes < tape.length) {
                    tape[bytes] = (byte) (four >> shift);
                    bytes++;
                }
            }
        }

        int readTape(int n) {
            bytes = 0;
            int place = reader.read(tape, n);
            if (place != NONE) {
                return -2 - place;
            }
            if (count >= MOST) {
                return NONE;
            }
            keep();
            return count - 1;
        }

        private void keep() {
            for (int i = 0; i < reader.size(); i++) {
                int place = stepPlace(count, i);
                if (place != NONE) {
                    steps[place] = reader.stepAt(i);
                }
            }
            if (count >= 0 && count < sizes.length) {
                sizes[count] = reader.size();
                count++;
            }
        }

        private int stepPlace(int fit, int i) {
            int place = fit * FitReader.MOST_STEPS + i;
            return fit >= 0 && i >= 0 && place >= 0 && place < steps.length ? place : NONE;
        }

        /**
         * The truths that wait for their "&" or "|" are the bits of a long, the latest the lowest: two of
         * each of 21 levels at most, and the latest.
         */
        boolean holds(int fit, int model, int year, int marks) {
            int size = fit >= 0 && fit < count && fit < sizes.length ? sizes[fit] : 0;
            long truths = 0;
            for (int i = 0; i < size; i++) {
                int place = stepPlace(fit, i);
                int step = place == NONE ? 0 : steps[place];
                switch (FitReader.signOf(step)) {
                    case FitReader.NOT:
                        truths ^= 1;
                        break;
                    case FitReader.AND:
                        truths = truths >>> 1 & (truths | ~1L);
                        break;
                    case FitReader.OR:
                        truths = truths >>> 1 | truths & 1;
                        break;
                    default:
                        truths = truths << 1 | (FitReader.passes(step, model, year, marks) ? 1 : 0);
                        break;
                }
            }
            return (truths & 1) != 0;
        }
    }

    /** Reads the text of a fit: into steps, each behind those that it works on; or up to what can't stand. */
    private static final class FitReader {
        static final int MOST_STEPS = 100;
        static final int MODEL = 0;
        static final int YEARS = 1;
        static final int MARK = 2;
        static final int NOT = 3;
        static final int AND = 4;
        static final int OR = 5;
        private static final int MOST_OPEN = 20;
        private static final int MOST_DIGITS = 4;
        private static final int END = -1;

        // A step is one int: its sign, and 14 bits for each of the two numbers of its test.
        private static final int NUMBER_BITS = 14;
        private static final int NUMBER_MASK = (1 << NUMBER_BITS) - 1;

        private final byte[] text = new byte[MOST_STEPS];
        private final int[] steps = new int[MOST_STEPS];
        private int length = 0;
        private int place = 0;
        private int size = 0;
        private boolean wrong = false;

        static int signOf(int step) {
            return step >> 2 * NUMBER_BITS;
        }

        static boolean passes(int step, int model, int year, int marks) {
            int first = step >> NUMBER_BITS & NUMBER_MASK;
            int second = step & NUMBER_MASK;
            switch (signOf(step)) {
                case MODEL:
                    return model == first;
                case YEARS:
                    return year >= first && year <= second;
                default:
                    return (marks >> first & 1) != 0;
            }
        }

        int size() {
            return size;
        }

        int stepAt(int i) {
            return i >= 0 && i < size && i < steps.length ? steps[i] : 0;
        }

        /** NONE if the first n bytes are a fit; or the place of what can't stand there. */
        int read(byte[] bytes, int n) {
            length = bytes == null ? 0 : Math.min(Math.max(n, 0), Math.min(bytes.length, text.length));
            for (int i = 0; i < length; i++) {
                text[i] = bytes[i];
            }
            place = 0;
            size = 0;
            wrong = false;
            readAny(0);
            if (nextByte() != END) {
                wrong = true;
            }
            return wrong ? place : NONE;
        }

        private void readAny(int open) {
            readAll(open);
            for (int more = 0; more < MOST_STEPS && comes('|'); more++) {
                readAll(open);
                add(OR, 0, 0);
            }
        }

        private void readAll(int open) {
            readUnit(open);
            for (int more = 0; more < MOST_STEPS && comes('&'); more++) {
                readUnit(open);
                add(AND, 0, 0);
            }
        }

        private void readUnit(int open) {
            if (open < MOST_OPEN && comes('!')) {
                readUnit(open + 1);
                add(NOT, 0, 0);
            } else if (open < MOST_OPEN && comes('(')) {
                readAny(open + 1);
                must(')');
            } else {
                readTest();
            }
        }

        private void readTest() {
            if (comes('M')) {
                add(MODEL, readNumber(), 0);
            } else if (comes('Y')) {
                int first = readNumber();
                must('-');
                add(YEARS, first, readNumber());
            } else {
                must('K');
                add(MARK, readLetter(), 0);
            }
        }

        /** A fifth digit is left: nothing that may follow a number is a digit. */
        private int readNumber() {
            int sign = nextByte();
            if (!isDigit(sign)) {
                wrong = true;
                return 0;
            }
            int value = 0;
            for (int digits = 0; digits < MOST_DIGITS && isDigit(sign); digits++) {
                value = value * 10 + sign - '0';
                place++;
                sign = byteHere();
            }
            return value;
        }

        private int readLetter() {
            int sign = nextByte();
            if (sign < 'a' || sign > 'h') {
                wrong = true;
                return 0;
            }
            place++;
            return sign - 'a';
        }

        private static boolean isDigit(int sign) {
            return sign >= '0' && sign <= '9';
        }

        private boolean comes(char sign) {
            if (nextByte() != sign) {
                return false;
            }
            place++;
            return true;
        }

        private void must(char sign) {
            if (nextByte() == sign) {
                place++;
            } else {
                wrong = true;
            }
        }

        /** The byte behind the blanks; once the text is wrong there is none, and the place stays. */
        private int nextByte() {
            while (!wrong && place < length && byteHere() == ' ') {
                place++;
            }
            return byteHere();
        }

        private int byteHere() {
            return !wrong && place >= 0 && place < length && place < text.length ? text[place] & 255 : END;
        }

        private void add(int sign, int first, int second) {
            if (!wrong && size >= 0 && size < steps.length) {
                steps[size] = sign << 2 * NUMBER_BITS | first << NUMBER_BITS | second;
                size++;
            }
        }
    }

    /** The parts of all models. */
    private static final class Models {
        static final int MOST_PARTS = 24;
        private static final int MOST = 8;

        private final int[] counts = new int[MOST];
        private final int[] facts = new int[MOST * MOST_PARTS * FACTS];

        static boolean isModel(int model) {
            return model >= 0 && model < MOST;
        }

        /** How many parts the model has; 0 if there is no such model. */
        int partsOf(int model) {
            return model >= 0 && model < counts.length ? counts[model] : 0;
        }

        int add(int model) {
            int part = partsOf(model);
            if (model >= 0 && model < counts.length && part < MOST_PARTS) {
                counts[model] = part + 1;
            }
            return part;
        }

        /** What a part's number is; NONE if there is no such part. */
        int factOf(int model, int part, int what) {
            int place = placeOf(model, part, what);
            return place == NONE ? NONE : facts[place];
        }

        void store(int model, int part, int what, int fact) {
            int place = placeOf(model, part, what);
            if (place != NONE) {
                facts[place] = fact;
            }
        }

        boolean hasShell(int model) {
            for (int part = 0; part < partsOf(model); part++) {
                if (factOf(model, part, KIND) == SHELL) {
                    return true;
                }
            }
            return false;
        }

        private int placeOf(int model, int part, int what) {
            boolean there = part >= 0 && part < partsOf(model) && what >= 0 && what < FACTS;
            int place = (model * MOST_PARTS + part) * FACTS + what;
            return there && place >= 0 && place < facts.length ? place : NONE;
        }
    }

    private static final class Car {
        final int model;
        final int year;
        final int marks;
        final int parts;
        final int came;
        int on;
        boolean drained = false;
        boolean ended = false;
        boolean pressed = false;

        Car(int model, int year, int marks, int parts, int on, int came) {
            this.model = model;
            this.year = year;
            this.marks = marks;
            this.parts = parts;
            this.on = on;
            this.came = came;
        }

        boolean isOn(int part) {
            return part >= 0 && part < parts && (on >> part & 1) != 0;
        }
    }

    private static final class Item {
        final int car;
        final int model;
        final int part;
        int where = AT_CAR;
        int since = 0;
        int paid = 0;

        Item(int car, int model, int part) {
            this.car = car;
            this.model = model;
            this.part = part;
        }
    }

    /** What the latest find() found, in its order. */
    private static final class Findings {
        private final int[] numbers = new int[MOST_SHELVED];
        private final int[] values = new int[MOST_SHELVED];
        private final boolean[] owns = new boolean[MOST_SHELVED];
        private int count = 0;

        int size() {
            return count;
        }

        int numberAt(int k) {
            return k >= 0 && k < count && k < numbers.length ? numbers[k] : NONE;
        }

        void clear() {
            count = 0;
        }

        /** Items come by their numbers, so one that is equal otherwise goes behind. */
        void insert(int number, boolean own, int value) {
            if (count < 0 || count >= numbers.length) {
                return;
            }
            int place = count;
            while (place > 0 && goesAhead(own, value, place - 1)) {
                write(place, numbers[place - 1], owns[place - 1], values[place - 1]);
                place--;
            }
            write(place, number, own, value);
            count++;
        }

        private boolean goesAhead(boolean own, int value, int place) {
            if (place < 0 || place >= numbers.length) {
                return false;
            }
            return own == owns[place] ? value < values[place] : own;
        }

        private void write(int place, int number, boolean own, int value) {
            if (place >= 0 && place < numbers.length) {
                numbers[place] = number;
                owns[place] = own;
                values[place] = value;
            }
        }
    }

    /** The acts that can be undone, the latest last. */
    private static final class Acts {
        private static final int MOST = 10;

        private final int[] acts = new int[MOST];
        private final int[] numbers = new int[MOST];
        private int count = 0;

        int held() {
            return count;
        }

        void forget() {
            count = 0;
        }

        void remember(int act, int number) {
            if (count >= MOST) {
                dropEldest();
            }
            if (count >= 0 && count < MOST) {
                acts[count] = act;
                numbers[count] = number;
                count++;
            }
        }

        int latestAct() {
            return count > 0 && count <= MOST ? acts[count - 1] : NONE;
        }

        int latestNumber() {
            return count > 0 && count <= MOST ? numbers[count - 1] : NONE;
        }

        void dropLatest() {
            if (count > 0) {
                count--;
            }
        }

        private void dropEldest() {
            for (int i = 1; i < MOST; i++) {
                acts[i - 1] = acts[i];
                numbers[i - 1] = numbers[i];
            }
            count = MOST - 1;
        }
    }
}
