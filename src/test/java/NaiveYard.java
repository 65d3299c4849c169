import java.util.ArrayList;
import java.util.Comparator;
import java.util.List;
import java.util.NoSuchElementException;

/**
 * The promises 11 to 30 a second way, for runs to be compared: nothing is kept that can be counted anew, what is
 * best is sought among all sets, and an act is undone by the cars as they were.
 */
final class NaiveYard {
    /** Of each model its parts as rows of 8 numbers. */
    final List<List<int[]>> models = new ArrayList<>();
    final BreakersYard fits;
    private List<Car> cars = new ArrayList<>();
    private final List<Item> items = new ArrayList<>();
    private final List<Act> acts = new ArrayList<>();
    private List<Integer> found = new ArrayList<>();
    private int day = 0;
    private long till = 0;

    /** The fits alone are asked of the yard itself: FitTest looks at those. */
    NaiveYard(BreakersYard fits) {
        this.fits = fits;
        for (int model = 0; model < 8; model++) {
            models.add(new ArrayList<>());
        }
    }

    private static final class Car {
        int model;
        int year;
        int marks;
        int came;
        boolean drained;
        boolean ended;
        boolean pressed;
        List<int[]> parts;
        /** 'l' lacking, 'o' on, 't' taken, 'p' pressed. */
        char[] states;

        Car copy() {
            Car copy = new Car();
            copy.model = model;
            copy.year = year;
            copy.marks = marks;
            copy.came = came;
            copy.drained = drained;
            copy.ended = ended;
            copy.pressed = pressed;
            copy.parts = parts;
            copy.states = states.clone();
            return copy;
        }
    }

    private static final class Item {
        int car;
        int part;
        int[] facts;
        int where;
        int since;
        int paid;
    }

    private static final class Act {
        int kind;
        int item;
        List<Car> before;
    }

    private static void must(boolean right) {
        if (!right) {
            throw new IllegalArgumentException();
        }
    }

    private static void there(boolean right) {
        if (!right) {
            throw new NoSuchElementException();
        }
    }

    private Car carOf(int car) {
        there(car >= 0 && car < cars.size());
        return cars.get(car);
    }

    private Item itemOf(int item) {
        there(item >= 0 && item < items.size());
        return items.get(item);
    }

    private void act(int kind, int item) {
        Act act = new Act();
        act.kind = kind;
        act.item = item;
        act.before = new ArrayList<>();
        for (Car car : cars) {
            act.before.add(car.copy());
        }
        acts.add(act);
        if (acts.size() > 10) {
            acts.remove(0);
        }
    }

    int car(int model, int year, int marks, int lacks) {
        must(model >= 0 && model < 8 && !models.get(model).isEmpty());
        must(year >= 0 && year <= 9999 && marks >= 0 && marks <= 255);
        must(lacks >= 0 && lacks < 1L << models.get(model).size());
        if (cars.size() == 40) {
            return -1;
        }
        Car car = new Car();
        car.model = model;
        car.year = year;
        car.marks = marks;
        car.came = day;
        car.parts = new ArrayList<>(models.get(model));
        car.states = new char[car.parts.size()];
        for (int part = 0; part < car.states.length; part++) {
            car.states[part] = (lacks >> part & 1) == 1 ? 'l' : 'o';
        }
        cars.add(car);
        acts.clear();
        return cars.size() - 1;
    }

    int about(int car, int what) {
        Car asked = carOf(car);
        must(what >= 0 && what <= 7);
        int on = 0;
        for (int part = 0; part < asked.states.length; part++) {
            on += asked.states[part] == 'o' ? 1 << part : 0;
        }
        return new int[] {asked.model, asked.year, asked.marks, on, asked.drained ? 1 : 0, asked.ended ? 1 : 0,
            asked.pressed ? 1 : 0, asked.came}[what];
    }

    int drain(int car) {
        if (carOf(car).drained || carOf(car).pressed) {
            return 0;
        }
        act(1, -1);
        carOf(car).drained = true;
        return 1;
    }

    int papers(int car) {
        if (carOf(car).ended || carOf(car).pressed) {
            return 0;
        }
        act(2, -1);
        carOf(car).ended = true;
        return 1;
    }

    int hinders(int car, int part) {
        Car asked = carOf(car);
        there(part >= 0 && part < asked.parts.size());
        int[] facts = asked.parts.get(part);
        int on = about(car, 3);
        if (asked.pressed) {
            return 1;
        }
        if (asked.states[part] != 'o') {
            return 2;
        }
        if (facts[2] >= 0 && asked.states[facts[2]] == 'o') {
            return 3;
        }
        if ((facts[0] == 3 || facts[0] == 4) && !asked.drained) {
            return 4;
        }
        if (facts[0] == 5 && Integer.bitCount(on) > 1) {
            return 5;
        }
        return shelf().size() == 60 ? 6 : items.size() == 400 ? 7 : 0;
    }

    int take(int car, int part) {
        int hinders = hinders(car, part);
        if (hinders > 0) {
            return -hinders;
        }
        act(3, items.size());
        Item item = new Item();
        item.car = car;
        item.part = part;
        item.facts = carOf(car).parts.get(part);
        item.since = day;
        items.add(item);
        carOf(car).states[part] = 't';
        return items.size() - 1;
    }

    int press(int car) {
        Car hull = carOf(car);
        boolean danger = false;
        int sum = 0;
        for (int part = 0; part < hull.states.length; part++) {
            danger |= hull.states[part] == 'o' && hull.parts.get(part)[0] == 4;
            sum += hull.states[part] == 'o' ? hull.parts.get(part)[4] : 0;
        }
        if (hull.pressed || !hull.drained || !hull.ended || danger) {
            return hull.pressed ? -1 : !hull.drained ? -2 : !hull.ended ? -3 : -4;
        }
        hull.pressed = true;
        hull.states = new String(hull.states).replace('o', 'p').toCharArray();
        acts.clear();
        return sum;
    }

    int day(int n) {
        must(n >= 0 && n <= 10000);
        if (day + n > 1000000) {
            throw new IllegalStateException();
        }
        day += n;
        if (n > 0) {
            acts.clear();
        }
        return day;
    }

    int late(int what, int k) {
        must(what == 0 || what == 1);
        List<Integer> late = new ArrayList<>();
        for (int car = 0; car < cars.size(); car++) {
            Car asked = cars.get(car);
            if (what == 0 ? !asked.drained && asked.came + 5 <= day : !asked.pressed && asked.came + 90 <= day) {
                late.add(car);
            }
        }
        return k >= 0 && k < late.size() ? late.get(k) : -1;
    }

    private int value(Item item) {
        int value = item.facts[0] == 2 ? item.facts[6] / 2 : item.facts[6];
        int times = 0;
        for (int until = item.since + 30; until <= day && times < 24; until += 30) {
            value -= value / 8;
            times++;
        }
        return value;
    }

    private List<Integer> shelf() {
        List<Integer> shelf = new ArrayList<>();
        for (int item = 0; item < items.size(); item++) {
            if (items.get(item).where == 0) {
                shelf.add(item);
            }
        }
        return shelf;
    }

    int item(int item, int what) {
        Item asked = itemOf(item);
        must(what >= 0 && what <= 4);
        int value = asked.where == 0 ? value(asked) : asked.where == 1 ? asked.paid : 0;
        return new int[] {asked.car, asked.part, asked.where, value, asked.since}[what];
    }

    int find(int name, int model, int year, int marks) {
        must(name >= 0 && name <= 99);
        found = shelf();
        found.removeIf(number -> {
            int[] facts = items.get(number).facts;
            int own = cars.get(items.get(number).car).model;
            return facts[1] != name || !(facts[7] < 0 ? own == model : fits.says(facts[7], model, year, marks));
        });
        found.sort(Comparator.comparing((Integer number) -> cars.get(items.get(number).car).model != model)
                .thenComparing(number -> value(items.get(number)))
                .thenComparing(number -> number));
        return found.size();
    }

    int found(int k) {
        return k >= 0 && k < found.size() ? found.get(k) : -1;
    }

    int sell(int item, int trade) {
        Item asked = itemOf(item);
        must(trade == 0 || trade == 1);
        if (asked.where != 0) {
            return -1;
        }
        if (asked.facts[0] == 4 && trade == 0) {
            return -2;
        }
        acts.clear();
        int paid = value(asked);
        Item other = null;
        for (int number : shelf()) {
            Item next = items.get(number);
            if (asked.facts[0] == 1 && number != item && other == null && next.facts[0] == 1
                    && next.car == asked.car && next.facts[1] == asked.facts[1]) {
                other = next;
            }
        }
        if (asked.facts[0] == 1 && other == null) {
            paid /= 2;
        }
        int both = paid + (other == null ? 0 : value(other));
        sold(asked, paid);
        if (other != null) {
            sold(other, both - paid);
        }
        return both;
    }

    private void sold(Item item, int paid) {
        item.where = 1;
        item.since = day;
        item.paid = paid;
        till += paid;
    }

    int back(int item, int bad) {
        Item asked = itemOf(item);
        must(bad == 0 || bad == 1);
        if (asked.where != 1) {
            return -1;
        }
        if (asked.since + 30 < day) {
            return -2;
        }
        if (bad == 0 && shelf().size() == 60) {
            return -3;
        }
        asked.where = bad == 1 ? 2 : 0;
        asked.since = day;
        till -= asked.paid;
        acts.clear();
        return asked.paid;
    }

    int best(int car, int wage) {
        return (int) bestAndWorth(car, wage)[0];
    }

    int worth(int car, int wage) {
        return (int) bestAndWorth(car, wage)[1];
    }

    private long[] bestAndWorth(int car, int wage) {
        Car asked = carOf(car);
        must(wage >= 0 && wage <= 1000);
        long[] best = {0, 0, 0};
        for (int bits = 1; bits < 1 << asked.states.length; bits++) {
            long worth = 0;
            long minutes = 0;
            boolean fine = true;
            for (int part = 0; part < asked.states.length && fine; part++) {
                if ((bits >> part & 1) == 0) {
                    continue;
                }
                int[] facts = asked.parts.get(part);
                boolean wet = facts[0] == 3 || facts[0] == 4;
                fine = asked.states[part] == 'o' && facts[0] != 5 && (asked.drained || !wet)
                        && (facts[2] < 0 || asked.states[facts[2]] != 'o' || (bits >> facts[2] & 1) == 1);
                worth += (facts[0] == 1 || facts[0] == 2 ? facts[6] / 2 : facts[6]) - facts[3] * wage;
                minutes += facts[3];
            }
            if (fine && (worth > best[1] || worth == best[1] && minutes < best[2])) {
                best = new long[] {bits, worth, minutes};
            }
        }
        return best;
    }

    int grams(int stuff, int what) {
        must(stuff >= 0 && stuff <= 3 && what >= 0 && what <= 5);
        int sum = 0;
        for (Car car : cars) {
            for (int part = 0; part < car.states.length; part++) {
                char state = car.states[part];
                boolean counts = what == 0 && state != 'l' || what == 1 && state == 'o' || what == 4 && state == 'p';
                sum += counts && car.parts.get(part)[5] == stuff ? car.parts.get(part)[4] : 0;
            }
        }
        for (Item item : items) {
            boolean counts = what == 2 && item.where == 0 || what == 3 && item.where == 1
                    || what == 5 && item.where == 2;
            sum += counts && item.facts[5] == stuff ? item.facts[4] : 0;
        }
        return sum;
    }

    int count(int what) {
        switch (what) {
            case 2:
                return cars.size();
            case 3:
                return shelf().size();
            case 4:
                return items.size();
            case 5:
                return day;
            case 6:
                return acts.size();
            default:
                return fits.count(what);
        }
    }

    long till() {
        return till;
    }

    int undo() {
        if (acts.isEmpty()) {
            return -1;
        }
        Act act = acts.remove(acts.size() - 1);
        cars = act.before;
        if (act.kind == 3) {
            items.get(act.item).where = 3;
            items.get(act.item).since = day;
        }
        return act.kind;
    }
}
