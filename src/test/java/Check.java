import java.util.function.Supplier;

/** Counts answers that are due, and helps to make texts, rows, parts and cars. */
final class Check {
    private static int asked = 0;
    private static int wrong = 0;

    private Check() {
    }

    static void due(String call, long got, long want) {
        asked++;
        if (got != want) {
            wrong++;
            System.out.println(call + " answered " + got + ", due is " + want);
        }
    }

    static void due(String call, boolean got, boolean want) {
        due(call, got ? 1 : 0, want ? 1 : 0);
    }

    static void same(String name, String got, String want) {
        asked++;
        if (!got.equals(want)) {
            wrong++;
            System.out.println(name + ":\n" + got + "-- due is --\n" + want);
        }
    }

    static void dueThrow(String call, Class<?> want, Supplier<Object> run) {
        asked++;
        Object answer;
        try {
            answer = run.get();
        } catch (RuntimeException e) {
            answer = e.getClass();
        }
        if (answer != want) {
            wrong++;
            System.out.println(call + " gave " + answer + ", due is " + want.getName());
        }
    }

    static void end() {
        System.out.println(asked + " answers asked, " + wrong + " wrong");
        System.exit(wrong == 0 && asked > 0 ? 0 : 1);
    }

    /** Feeds the text, padded to whole twenties. */
    static int feedText(BreakersYard yard, String text) {
        int fed = yard.count(7);
        for (int from = 0; from < text.length(); from += 20) {
            int[] fives = new int[5];
            for (int i = 0; i < 20; i++) {
                int sign = from + i < text.length() ? text.charAt(from + i) : 0;
                fives[i / 4] = fives[i / 4] << 8 | sign;
            }
            fed = yard.feed(fives[0], fives[1], fives[2], fives[3], fives[4]);
        }
        return fed;
    }

    static int fitText(BreakersYard yard, String text) {
        feedText(yard, text);
        return yard.fit(text.length());
    }

    static void fillRow(BreakersYard yard, int sheet, int k, long... numbers) {
        yard.row(sheet, k, numbers.length);
        for (int i = 0; i < numbers.length; i++) {
            yard.put(sheet, k, i, numbers[i]);
        }
    }

    /** A part of a model by way of row 15 of sheet 0, which is made if there is none. */
    static int makePart(BreakersYard yard, int model, long... numbers) {
        if (yard.count(0) == 0) {
            yard.sheet(2);
        }
        fillRow(yard, 0, 15, numbers);
        return yard.part(model, 0, 15);
    }

    /** A part that hangs on none, of 10 minutes, 100 grams, stuff 0. */
    static int plainPart(BreakersYard yard, int model, int kind, int name, int price) {
        return makePart(yard, model, kind, name, -1, 10, 100, 0, price);
    }

    /** So many of them, alike, by way of one row. */
    static void plainParts(BreakersYard yard, int model, int n) {
        for (int part = 0; part < n; part++) {
            if (part == 0) {
                plainPart(yard, model, 0, 1, 1);
            } else {
                yard.part(model, 0, 15);
            }
        }
    }
}
