import java.util.ArrayDeque;
import java.util.Deque;

/** Reads many texts a second way: their places by what may follow, their truths by cutting them up. */
public final class FitTest {
    private static final String SIGNS = "MYK!()|&- 0123456789abchi";

    private FitTest() {
    }

    public static void main(String[] args) {
        Dice dice = new Dice(1);
        for (int time = 0; time < 60000; time++) {
            compare(textOf(dice), dice);
        }
        Check.end();
    }

    private static void compare(String text, Dice dice) {
        BreakersYard yard = new BreakersYard();
        Check.feedText(yard, text + " ");
        int place = placeIn(text);
        Check.due("fit \"" + text + "\"", yard.fit(text.length()), place < 0 ? 0 : -2 - place);
        for (int i = 0; i < 6 && place < 0; i++) {
            int model = dice.below(4);
            int year = dice.below(4);
            int marks = dice.below(8);
            Check.due("\"" + text + "\" of " + model + ", " + year + ", " + marks,
                    yard.says(0, model, year, marks), truth(text.replace(" ", ""), model, year, marks));
        }
    }

    private static String textOf(Dice dice) {
        String text = anyOf(dice, dice.below(dice.oneIn(10) ? 23 : 6));
        int changes = dice.oneIn(2) ? 0 : 1 + dice.below(2);
        for (int i = 0; i < changes; i++) {
            int at = dice.below(text.length() + 1);
            String sign = "" + SIGNS.charAt(dice.below(SIGNS.length()));
            int keep = Math.min(text.length(), at + dice.below(2));
            text = text.substring(0, at) + (dice.oneIn(3) ? "" : sign) + text.substring(keep);
        }
        return text.substring(0, Math.min(99, dice.oneIn(8) ? dice.below(text.length() + 1) : text.length()));
    }

    private static String anyOf(Dice dice, int deep) {
        String one = unitOf(dice, deep);
        while (dice.oneIn(2)) {
            one += blank(dice) + "|&".charAt(dice.below(2)) + unitOf(dice, Math.min(deep, 2));
        }
        return one + blank(dice);
    }

    private static String unitOf(Dice dice, int deep) {
        if (deep > 0) {
            return dice.oneIn(2) ? blank(dice) + "!" + unitOf(dice, deep - 1)
                    : blank(dice) + "(" + (deep > 6 ? unitOf(dice, deep - 1) : anyOf(dice, deep - 1)) + ")";
        }
        switch (dice.below(3)) {
            case 0:
                return blank(dice) + "M" + number(dice);
            case 1:
                return blank(dice) + "Y" + number(dice) + blank(dice) + "-" + number(dice);
            default:
                return blank(dice) + "K" + blank(dice) + (char) ('a' + dice.below(3));
        }
    }

    private static String number(Dice dice) {
        return blank(dice) + (dice.oneIn(6) ? "00" : "") + dice.below(4) + (dice.oneIn(20) ? "12" : "");
    }

    private static String blank(Dice dice) {
        return dice.oneIn(9) ? " " : "";
    }

    /** The place of what can't stand, or -1: by a list of what is open and one word for what comes next. */
    private static int placeIn(String text) {
        Deque<Character> open = new ArrayDeque<>();
        String next = "unit";
        int digits = 0;
        for (int place = 0; place < text.length(); place++) {
            char sign = text.charAt(place);
            boolean digit = sign >= '0' && sign <= '9';
            boolean inNumber = next.startsWith("in ");
            if (inNumber && digit) {
                if (++digits > 4) {
                    return place;
                }
                continue;
            }
            if (inNumber) {
                next = next.equals("in first") ? "dash" : "sign";
            }
            if (sign == ' ') {
                continue;
            }
            if (next.equals("sign")) {
                shutNots(open);
            }
            if (next.equals("unit") && (sign == '!' || sign == '(') && open.size() < 20) {
                open.push(sign);
            } else if (next.equals("unit") && sign == 'M') {
                next = "only";
            } else if (next.equals("unit") && sign == 'Y') {
                next = "first";
            } else if (next.equals("unit") && sign == 'K') {
                next = "letter";
            } else if (next.equals("letter") && sign >= 'a' && sign <= 'h') {
                next = "sign";
            } else if ((next.equals("only") || next.equals("first") || next.equals("second")) && digit) {
                next = "in " + next;
                digits = 1;
            } else if (next.equals("dash") && sign == '-') {
                next = "second";
            } else if (next.equals("sign") && (sign == '|' || sign == '&')) {
                next = "unit";
            } else if (next.equals("sign") && sign == ')' && !open.isEmpty()) {
                open.pop();
            } else {
                return place;
            }
        }
        shutNots(open);
        boolean whole = open.isEmpty() && (next.equals("sign") || next.equals("in only") || next.equals("in second"));
        return whole ? -1 : text.length();
    }

    private static void shutNots(Deque<Character> open) {
        while (!open.isEmpty() && open.peek() == '!') {
            open.pop();
        }
    }

    /** Of a text without blanks. */
    private static boolean truth(String text, int model, int year, int marks) {
        for (char sign : "|&".toCharArray()) {
            int at = lastOutside(text, sign);
            if (at >= 0) {
                boolean left = truth(text.substring(0, at), model, year, marks);
                boolean right = truth(text.substring(at + 1), model, year, marks);
                return sign == '|' ? left || right : left && right;
            }
        }
        String rest = text.substring(1);
        switch (text.charAt(0)) {
            case '!':
                return !truth(rest, model, year, marks);
            case '(':
                return truth(rest.substring(0, rest.length() - 1), model, year, marks);
            case 'M':
                return Integer.parseInt(rest) == model;
            case 'K':
                return (marks & 1 << rest.charAt(0) - 'a') != 0;
            default:
                String[] years = rest.split("-");
                return Integer.parseInt(years[0]) <= year && year <= Integer.parseInt(years[1]);
        }
    }

    private static int lastOutside(String text, char sign) {
        int open = 0;
        int last = -1;
        for (int i = 0; i < text.length(); i++) {
            char here = text.charAt(i);
            open += here == '(' ? 1 : here == ')' ? -1 : 0;
            last = open == 0 && here == sign ? i : last;
        }
        return last;
    }
}
