/**
 * What can be seen of a yard, as one text (of many cars, items and parts the first ones, for an object is good for
 * 512 calls): it is the last that is done with the yard, for it tries things.
 */
final class Picture {
    private final BreakersYard yard;
    private final StringBuilder text = new StringBuilder();

    private Picture(BreakersYard yard) {
        this.yard = yard;
    }

    static String of(BreakersYard yard) {
        Picture picture = new Picture(yard);
        picture.countsAndGrams();
        picture.cars();
        picture.items();
        picture.finds();
        picture.acts();
        picture.rows();
        picture.parts();
        picture.fits();
        return picture.text.toString();
    }

    private void put(String name, long... numbers) {
        text.append(name);
        for (long number : numbers) {
            text.append(' ').append(number);
        }
        text.append('\n');
    }

    private void countsAndGrams() {
        for (int what = 0; what < 8; what++) {
            put("count", what, yard.count(what));
        }
        put("till", yard.till());
        for (int stuff = 0; stuff < 4; stuff++) {
            for (int what = 0; what < 6; what++) {
                put("grams", stuff, what, yard.grams(stuff, what));
            }
        }
    }

    private void cars() {
        for (int car = 0; car < Math.min(yard.count(2), 4); car++) {
            for (int what = 0; what < 8; what++) {
                put("about", car, what, yard.about(car, what));
            }
            put("best", car, yard.best(car, 3), yard.worth(car, 3));
        }
        put("late", yard.late(0, 0), yard.late(0, 1), yard.late(1, 0));
    }

    private void items() {
        for (int item = 0; item < Math.min(yard.count(4), 8); item++) {
            for (int what = 0; what < 5; what++) {
                put("item", item, what, yard.item(item, what));
            }
        }
    }

    private void finds() {
        for (int k = 0; k < 4; k++) {
            put("found", k, yard.found(k));
        }
    }

    private void acts() {
        for (int act = 0; act <= 10; act++) {
            put("undo", yard.undo());
        }
        for (int car = 0; car < Math.min(yard.count(2), 4); car++) {
            put("undone", yard.about(car, 3), yard.about(car, 4), yard.about(car, 5));
        }
        put("shelf", yard.count(3));
    }

    /** A row that makes a part shows all that matters of it; of the others it shows how they are refused. */
    private void rows() {
        for (int sheet = 0; sheet < Math.min(yard.count(0), 2); sheet++) {
            for (int k = 0; k < 16; k++) {
                int part = yard.part(7, sheet, k);
                put("row", sheet, k, part, yard.put(sheet, k, 6, 0), yard.put(sheet, k, 11, 0));
                if (part >= 0) {
                    told(7, part);
                }
            }
        }
    }

    private void parts() {
        for (int model = 0; model < 2; model++) {
            for (int part = 0; hasPart(model, part); part++) {
                if (part < 6 || part > 20) {
                    told(model, part);
                }
            }
        }
    }

    private boolean hasPart(int model, int part) {
        try {
            yard.told(model, part, 0);
            return part < 24;
        } catch (RuntimeException e) {
            return false;
        }
    }

    private void told(int model, int part) {
        for (int what = 0; what < 8; what++) {
            put("told", model, part, what, yard.told(model, part, what));
        }
    }

    private void fits() {
        put("tape", yard.fit(yard.count(7)), yard.count(1));
        for (int fit = 0; fit < Math.min(yard.count(1), 4); fit++) {
            for (int model = 0; model < 3; model++) {
                put("says", fit, model, yard.says(fit, model, 5, 1) ? 1 : 0);
            }
        }
    }
}
