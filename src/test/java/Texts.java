import java.time.YearMonth;

/** What is asked of a text alone: its fault, its numbers, its days. */
final class Texts {
    static final String ALL_OF_31 =
        "1 2 3 4 5 6 7 8 9 10 11 12 13 14 15 16 17 18 19 20 21 22 23 24 25 26 27 28 29 30 31";

    private Texts() {
    }

    static void faulty(String text, int place, int code) {
        CalendarOrders x = new CalendarOrders();
        Due.is("promise 7: order of \"" + text + "\"", Due.order(x, text), -2 - place);
        Due.is("promise 8: fault of \"" + text + "\"", x.fault(), code);
        Due.is("promise 7: how many orders behind \"" + text + "\"", x.count(2), 0);
    }

    static void right(String text) {
        CalendarOrders x = new CalendarOrders();
        Due.is("promise 7: order of \"" + text + "\"", Due.order(x, text), 0);
        Due.is("promise 8: fault of \"" + text + "\"", x.fault(), 0);
    }

    static long bits(int... numbers) {
        long bits = 0;
        for (int n : numbers) {
            bits |= 1L << n;
        }
        return bits;
    }

    static void field(String text, int field, long want) {
        CalendarOrders x = new CalendarOrders();
        int order = Due.order(x, text);
        Due.is("promise 11: field " + field + " of \"" + text + "\"", x.field(order, field), want);
    }

    /** Which days of a month are right, as a text. */
    static void days(String text, int how, int year, int month, String want) {
        CalendarOrders x = new CalendarOrders();
        int order = Due.order(x, text);
        StringBuilder got = new StringBuilder();
        for (int day = 1; day <= YearMonth.of(year, month).lengthOfMonth(); day++) {
            if (x.day(order, how, year, month, day)) {
                got.append(got.length() > 0 ? " " : "").append(day);
            }
        }
        Due.is("promise 12: days of " + year + "-" + month + ", how " + how + ", \"" + text + "\"", got.toString(), want);
    }
}
