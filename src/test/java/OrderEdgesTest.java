import java.time.YearMonth;

/** The boundary cases of promises 9, 10 and 12 to 16 and of the orders' numbers, sentence by sentence. */
public final class OrderEdgesTest {
    private static final int LAST = 157785119;
    private static final int FARTHEST = 20000 * 1440;
    private static final int LEAST_INT = Integer.MIN_VALUE;
    private static final int GREATEST_INT = Integer.MAX_VALUE;
    private static final int[] NO_MINUTES = {LEAST_INT, -1, LAST + 1, GREATEST_INT};
    private static final int[] NO_ORDERS = {LEAST_INT, -1, 1, 11, 12, GREATEST_INT};
    private static final Class<IndexOutOfBoundsException> INDEX = IndexOutOfBoundsException.class;
    private static final Class<IllegalArgumentException> ARGUMENT = IllegalArgumentException.class;

    public static void main(String[] args) {
        numbersOfOrders();
        nothingIsLeftOfATextThatWent();
        noSuchOrder();
        cancelTellsHowManyAreLeft();
        toldAll();
        toldAtMost();
        toldRefuses();
        dayHow();
        dayRefusesHow();
        dayRefusesYears();
        dayRefusesDates();
        matchesAtBothEnds();
        matchesRefuses();
        nextIsBehind();
        nextIsNotTooFar();
        nextIsNone();
        nextRefusesMinutes();
        nextRefusesDays();
        beforeIsBefore();
        beforeIsNotTooFar();
        beforeIsNone();
        beforeRefuses();
        betweenCounts();
        betweenAtMost();
        betweenRefusesMinutes();
        betweenRefusesStretches();
        searchesFromEveryMinute();
        searchesOverYears();
        searchesOverChanges();
        indexFirst();
        Due.end("OrderEdgesTest");
    }

    private static int inZone(CalendarOrders x, int z, String text) {
        Due.text(x, text);
        return x.order(z, 0, 0, 0, 1);
    }

    private static CalendarOrders with(String... texts) {
        CalendarOrders x = new CalendarOrders();
        for (String text : texts) {
            Due.order(x, text);
        }
        return x;
    }

    private static void numbersOfOrders() {
        Due.sentence("3 ORDERS", "ORDERS are numbered 0 .. 11: the least number that is free.");
        CalendarOrders x = new CalendarOrders();
        for (int n = 0; n < 12; n++) {
            Due.is("order", Due.order(x, n + " * * * *"), n);
        }
        for (int n = 0; n < 12; n++) {
            Due.is("the text of order " + n, x.field(n, 0), 1L << n);
        }
        for (int n : new int[] {11, 0, 5}) {
            x.cancel(n);
        }
        for (int n : new int[] {0, 5, 11}) {
            Due.is("the least that is free", Due.order(x, (40 + n) + " * * * *"), n);
            Due.is("its own text", x.field(n, 0), 1L << 40 + n);
        }
        Due.is("the others stay", x.field(4, 0), 1L << 4);
        for (int n = 0; n < 12; n++) {
            x.cancel(n);
        }
        Due.is("all are free again", Due.order(x, "@daily"), 0);
        Due.order(x, "x");
        Due.is("one with a fault takes no number", Due.order(x, "@daily"), 1);
    }

    /** A number is given again: what the text before meant by it must be gone, whether that had a fault or not. */
    private static void nothingIsLeftOfATextThatWent() {
        Due.sentence("Promise 9", "An ORDER goes");
        String[] before = {"* * L * *", "* * L-3 * *", "* * LW * *", "* * 15W * *", "* * 9 * 5L", "* * 9 * 2#3", "* * 9 * 5",
            "* * 9 * * 2000", "* * 9 * * 1900-2199", "1 * 9 * *", "* 1 9 * *", "* * 9 6 *", "* * */2 * *", "* * 9 * */2"};
        for (String text : before) {
            for (int ended = 0; ended < 2; ended++) {
                CalendarOrders x = new CalendarOrders();
                // Behind a text with a fault at its end the number stays free, behind a right one it is freed.
                if (ended == 0) {
                    Due.is("order of " + text, Due.order(x, text), 0);
                    x.cancel(0);
                } else {
                    Due.is("order of " + text + "x", Due.order(x, text + "x") < 0, true);
                }
                Due.is("the number is given again", Due.order(x, "30 12 9 4 3"), 0);
                int[] want = {30, 12, 9, 4, 3};
                for (int f = 0; f < 5; f++) {
                    Due.is("field " + f + " behind " + text, x.field(0, f), 1L << want[f]);
                }
                Due.is("DAY behind " + text, x.told(0, 9), 0);
                Due.is("WEEKDAY behind " + text, x.told(0, 10), 0);
                for (int day = 1; day <= 30; day++) {
                    // 3 April 2024 is a Wednesday; none of the texts before means one.
                    Due.is("day " + day + " behind " + text, x.day(0, 3, 2024, 4, day), day == 9 || day % 7 == 3);
                }
                Due.is("no YEAR behind " + text, x.day(0, 3, 1899, 4, 9), true);
            }
        }
        CalendarOrders x = with("* * * * * 1900,1963,1964,2027,2028,2091,2092,2155,2156,2199");
        x.cancel(0);
        Due.order(x, "* * * * * 2000");
        for (int year = 1899; year <= 2200; year++) {
            Due.is("year " + year, x.day(0, 3, year, 1, 1), year == 2000);
        }
        Due.sentence("Promise 7", "its number; -2 less the place of its FAULT: there is none");
        CalendarOrders y = with("* * * * *");
        Due.order(y, "0 0 L * 5L x");
        Due.is("another order stays as it is", y.field(0, 0), (1L << 60) - 1);
        Due.is("a known day is asked for anew", y.matches(0, 1440), true);
        y.cancel(0);
        Due.order(y, "0 0 3 * *");
        Due.is("of the new text", y.matches(0, 1440), false);
        Due.is("the first minute that does", y.matches(0, 2880), true);
    }

    private static void noSuchOrder() {
        Due.sentence("Terms", "IndexOutOfBounds: no such zone, order, line of THE LOG. (order)");
        CalendarOrders x = with("* * * * *");
        for (int o : NO_ORDERS) {
            Due.refuses("cancel(" + o + ")", INDEX, () -> x.cancel(o));
            Due.refuses("told(" + o + ", 0)", INDEX, () -> x.told(o, 0));
            Due.refuses("field(" + o + ", 0)", INDEX, () -> x.field(o, 0));
            Due.refuses("day(" + o + ", ..)", INDEX, () -> x.day(o, 0, 2000, 1, 1));
            Due.refuses("matches(" + o + ", 0)", INDEX, () -> x.matches(o, 0));
            Due.refuses("next(" + o + ", 0, 1)", INDEX, () -> x.next(o, 0, 1));
            Due.refuses("before(" + o + ", 5, 1)", INDEX, () -> x.before(o, 5, 1));
            Due.refuses("between(" + o + ", 0, 1)", INDEX, () -> x.between(o, 0, 1));
        }
        Due.is("the order that there is", x.next(0, 0, 1), 1);
        x.cancel(0);
        Due.refuses("it is gone", INDEX, () -> x.next(0, 0, 1));
        for (int n = 0; n < 12; n++) {
            Due.order(x, "* * * * *");
        }
        Due.is("the last of twelve", x.next(11, 0, 1), 1);
        Due.refuses("none behind it", INDEX, () -> x.next(12, 0, 1));
    }

    private static void cancelTellsHowManyAreLeft() {
        Due.sentence("Promise 9", "An ORDER goes: how many are left.");
        CalendarOrders x = new CalendarOrders();
        for (int n = 0; n < 12; n++) {
            Due.order(x, "@daily");
        }
        for (int n = 0; n < 12; n++) {
            Due.is("cancel(" + n + ")", x.cancel(n), 11 - n);
            Due.is("how many there are", x.count(2), 11 - n);
        }
        for (int n = 0; n < 12; n++) {
            int order = n;
            Due.refuses("cancel(" + n + ") again", INDEX, () -> x.cancel(order));
        }
        Due.is("none is left", x.count(2), 0);
    }

    private static void toldAll() {
        Due.sentence("Promise 10", "whether DAY (9), WEEKDAY begins with * (10: 1 or 0)");
        String[] texts = {"* * * * *", "* * 1 * *", "* * * * 1", "* * 1 * 1", "* * */2 * */2", "* * *,1 * *,1", "* * 1,* * 1,*",
            "* * L * 1L", "@daily", "@weekly", "@monthly", "@yearly"};
        int[] days = {1, 0, 1, 0, 1, 1, 0, 0, 1, 1, 0, 0};
        int[] weekdays = {1, 1, 0, 0, 1, 1, 0, 0, 1, 0, 1, 1};
        CalendarOrders x = with(texts);
        for (int o = 0; o < 12; o++) {
            Due.is("DAY of " + texts[o], x.told(o, 9), days[o]);
            Due.is("WEEKDAY of " + texts[o], x.told(o, 10), weekdays[o]);
            Due.is("of a new one, runs", x.told(o, 5), 0);
            Due.is("of a new one, waits", x.told(o, 6), 0);
            Due.is("of a new one, began", x.told(o, 7), 0);
            Due.is("of a new one, dropped", x.told(o, 8), 0);
        }
    }

    private static void toldAtMost() {
        Due.sentence("Promise 10", "runs under way (5), whether one WAITS (6: 1 or 0), how many of it BEGAN (7), were DROPPED (8)");
        CalendarOrders x = new CalendarOrders();
        for (int overlap = 0; overlap <= 2; overlap++) {
            Due.text(x, "* * * * *");
            x.order(0, 0, 0, overlap, 10000);
        }
        int[][] runs = {{0, 0, 0}, {1, 1, 1}, {2, 1, 1}, {3, 1, 1}, {7, 1, 1}, {8, 1, 1}, {8, 1, 1}};
        int[][] dropped = {{0, 0, 0}, {0, 0, 0}, {0, 1, 0}, {0, 2, 1}, {0, 6, 5}, {0, 7, 6}, {1, 8, 7}};
        int[] minutes = {0, 1, 2, 3, 7, 8, 9};
        for (int i = 0; i < minutes.length; i++) {
            x.pass(minutes[i] - x.count(0));
            for (int o = 0; o <= 2; o++) {
                Due.is("runs of " + o + " at " + minutes[i], x.told(o, 5), runs[i][o]);
                Due.is("one of " + o + " waits at " + minutes[i], x.told(o, 6), o == 2 && minutes[i] > 1 ? 1 : 0);
                Due.is("began of " + o + " at " + minutes[i], x.told(o, 7), runs[i][o]);
                Due.is("dropped of " + o + " at " + minutes[i], x.told(o, 8), dropped[i][o]);
            }
        }
    }

    private static void toldRefuses() {
        Due.sentence("Promise 10", "IllegalArgument: another what.");
        CalendarOrders x = new CalendarOrders();
        Due.text(x, "* * * * 1");
        x.order(3, 2, 77, 1, 44);
        int[] want = {3, 2, 77, 1, 44, 0, 0, 0, 0, 1, 0};
        for (int what = 0; what <= 10; what++) {
            Due.is("told(0, " + what + ")", x.told(0, what), want[what]);
        }
        for (int bad : new int[] {LEAST_INT, -1, 11, GREATEST_INT}) {
            Due.refuses("told(0, " + bad + ")", ARGUMENT, () -> x.told(0, bad));
        }
    }

    private static void dayHow() {
        Due.sentence("Promise 12", "DAY alone (how = 0), WEEKDAY alone (1), as both tell (2), with MONTH and YEAR, too (3)");
        // The first of January 1900 is a Monday, that of January 2199 a Tuesday.
        String text = "* * 1 1 1 1900";
        String[] hows = {"DAY", "WEEKDAY", "both", "all"};
        boolean[] first = {true, true, true, true};
        boolean[] second = {false, false, false, false};
        boolean[] eighth = {false, true, true, true};
        boolean[] last = {true, false, true, false};
        boolean[] may = {true, false, true, false};
        CalendarOrders x = with(text);
        for (int how = 0; how <= 3; how++) {
            Due.is(hows[how] + " on 1900-01-01", x.day(0, how, 1900, 1, 1), first[how]);
            Due.is(hows[how] + " on 1900-01-02", x.day(0, how, 1900, 1, 2), second[how]);
            Due.is(hows[how] + " on 1900-01-08", x.day(0, how, 1900, 1, 8), eighth[how]);
            Due.is(hows[how] + " on 2199-01-01", x.day(0, how, 2199, 1, 1), last[how]);
            Due.is(hows[how] + " on 1900-05-01", x.day(0, how, 1900, 5, 1), may[how]);
        }
        CalendarOrders y = with("* * * 12 * 1900-1901");
        Due.is("the year before", y.day(0, 3, 1899, 12, 1), false);
        Due.is("the first year", y.day(0, 3, 1900, 12, 1), true);
        Due.is("the month before", y.day(0, 3, 1900, 11, 30), false);
        Due.is("the last year", y.day(0, 3, 1901, 12, 31), true);
        Due.is("the year behind", y.day(0, 3, 1902, 12, 31), false);
        Due.is("no month is asked for", y.day(0, 2, 1902, 11, 30), true);
    }

    private static void dayRefusesHow() {
        Due.sentence("Promise 12", "IllegalArgument: another how");
        CalendarOrders x = with("* * * * *");
        for (int bad : new int[] {LEAST_INT, -1, 4, GREATEST_INT}) {
            Due.refuses("how " + bad, ARGUMENT, () -> x.day(0, bad, 2000, 1, 1));
        }
        for (int how = 0; how <= 3; how++) {
            Due.is("how " + how, x.day(0, how, 2000, 1, 1), true);
        }
    }

    private static void dayRefusesYears() {
        Due.sentence("Promise 12", "YEAR is not 1899 .. 2200");
        CalendarOrders x = with("* * * * *");
        for (int how = 0; how <= 3; how++) {
            int h = how;
            for (int bad : new int[] {LEAST_INT, 0, 1898, 2201, GREATEST_INT}) {
                Due.refuses("year " + bad, ARGUMENT, () -> x.day(0, h, bad, 1, 1));
            }
            for (int year : new int[] {1899, 1900, 2199, 2200}) {
                Due.is("the first of " + year, x.day(0, how, year, 1, 1), true);
                Due.is("the last of " + year, x.day(0, how, year, 12, 31), true);
            }
        }
        // 1899 begins and ends on a Sunday, 2200 on a Wednesday.
        CalendarOrders y = with("* * 2 * sun", "* * 2 * wed");
        Due.is("the first of 1899", y.day(0, 1, 1899, 1, 1), true);
        Due.is("the last of 1899", y.day(0, 1, 1899, 12, 31), true);
        Due.is("the first of 2200", y.day(1, 1, 2200, 1, 1), true);
        Due.is("the last of 2200", y.day(1, 1, 2200, 12, 31), true);
    }

    private static void dayRefusesDates() {
        Due.sentence("Promise 12", "or there is no such MONTH, DAY");
        CalendarOrders x = with("* * * * *");
        for (int bad : new int[] {LEAST_INT, -1, 0, 13, GREATEST_INT}) {
            Due.refuses("month " + bad, ARGUMENT, () -> x.day(0, 3, 2000, bad, 1));
        }
        for (int bad : new int[] {LEAST_INT, -1, 0, 32, GREATEST_INT}) {
            Due.refuses("day " + bad, ARGUMENT, () -> x.day(0, 3, 2000, 1, bad));
        }
        for (int year : new int[] {1899, 1900, 2000, 2100, 2200}) {
            for (int m = 1; m <= 12; m++) {
                int month = m;
                int last = YearMonth.of(year, m).lengthOfMonth();
                Due.is("the first of " + year + "-" + m, x.day(0, 0, year, m, 1), true);
                Due.is("the last of " + year + "-" + m, x.day(0, 0, year, m, last), true);
                Due.refuses("one more of " + year + "-" + m, ARGUMENT, () -> x.day(0, 0, year, month, last + 1));
            }
        }
    }

    private static void matchesAtBothEnds() {
        Due.sentence("Promise 13", "Whether a minute matches.");
        CalendarOrders x = with("0 0 1 1 1 1900", "59 23 31 12 2 2199", "* * * * *");
        Due.is("the first minute", x.matches(0, 0), true);
        Due.is("the second minute", x.matches(0, 1), false);
        Due.is("the last minute", x.matches(1, LAST), true);
        Due.is("the last but one", x.matches(1, LAST - 1), false);
        Due.is("all, the first", x.matches(2, 0), true);
        Due.is("all, the last", x.matches(2, LAST), true);
        x.zone(1, -1439);
        x.zone(2, 1439);
        inZone(x, 1, "1 0 31 12 0");
        inZone(x, 2, "58 23 1 1 3");
        Due.is("the first of -1439", x.matches(3, 0), true);
        Due.is("the second of -1439", x.matches(3, 1), false);
        Due.is("the last of 1439", x.matches(4, LAST), true);
        Due.is("the last but one of 1439", x.matches(4, LAST - 1), false);
        x.zone(1, -1438);
        x.change(1, 1, -1439);
        inZone(x, 1, "2 0 31 12 0");
        Due.is("a time that comes twice, first", x.matches(5, 0), true);
        Due.is("a time that comes twice, again", x.matches(5, 1), true);
        Due.is("but no third time", x.matches(5, 2), false);
    }

    private static void matchesRefuses() {
        Due.sentence("Promise 13", "IllegalArgument: it is none.");
        CalendarOrders x = with("* * * * *");
        for (int bad : NO_MINUTES) {
            Due.refuses("matches(0, " + bad + ")", ARGUMENT, () -> x.matches(0, bad));
        }
        Due.is("matches(0, 0)", x.matches(0, 0), true);
        Due.is("matches(0, last)", x.matches(0, LAST), true);
    }

    private static void nextIsBehind() {
        Due.sentence("Promise 14", "The least minute behind one that matches");
        CalendarOrders x = with("* * * * *", "0 0 1 1 *", "59 23 31 12 *");
        Due.is("not the first one itself", x.next(0, 0, 1), 1);
        Due.is("the last but one's", x.next(0, LAST - 1, 1), LAST);
        Due.is("a year later, not it", x.next(1, 0, 20000), 365 * 1440);
        Due.is("from the minute before", x.next(1, 365 * 1440 - 1, 1), 365 * 1440);
        Due.is("from the first", x.next(2, 0, 20000), 365 * 1440 - 1);
        Due.is("the last of all", x.next(2, LAST - 1, 1), LAST);
        Due.is("the last of all, from afar", x.next(2, LAST - 365 * 1440, 20000), LAST);
    }

    private static void nextIsNotTooFar() {
        Due.sentence("Promise 14", "and is at most so many days (1440 minutes each) behind it");
        CalendarOrders x = with("* * * * *", "0 12 15 6 * 1950");
        int only = x.minute(0, 1950, 6, 15, 12, 0);
        Due.is("no days", x.next(0, 77, 0), -1);
        for (int days : new int[] {1, 2, 31, 366, 12345}) {
            Due.is("just " + days + " days", x.next(1, only - days * 1440, days), only);
            Due.is("a minute more than " + days + " days", x.next(1, only - days * 1440 - 1, days), -1);
            Due.is("a minute less than " + days + " days", x.next(1, only - days * 1440 + 1, days), only);
        }
        CalendarOrders y = with("0 0 1 1 * 2000");
        int millennium = y.minute(0, 2000, 1, 1, 0, 0);
        Due.is("just 20000 days", y.next(0, millennium - FARTHEST, 20000), millennium);
        Due.is("a minute more than 20000 days", y.next(0, millennium - FARTHEST - 1, 20000), -1);
        Due.is("20000 days, but 19999 asked for", y.next(0, millennium - FARTHEST, 19999), -1);
    }

    private static void nextIsNone() {
        Due.sentence("Promise 14", "at most so many days (1440 minutes each) behind it; NONE");
        CalendarOrders x = with("* * * * *", "0 0 30 2 *", "0 0 31 4,6,9,11 *", "0 0 1 1 * 1900", "* * L-30 4 *", "* * 1,L-30 2 1#5 1901");
        Due.is("none behind the last minute", x.next(0, LAST, 20000), -1);
        Due.is("none behind the last minute, no days", x.next(0, LAST, 0), -1);
        Due.is("30 February", x.next(1, 0, 20000), -1);
        Due.is("31 April", x.next(2, LAST - FARTHEST, 20000), -1);
        Due.is("only the first minute", x.next(3, 0, 20000), -1);
        Due.is("the first of a month of 30 days", x.next(4, 0, 20000), -1);
        Due.is("the first of February 1901 all the same", x.next(5, 0, 20000), 396 * 1440);
        x.zone(2, 1439);
        inZone(x, 2, "59 23 1 1 *");
        Due.is("a minute behind the last", x.next(6, LAST - 1000, 20000), -1);
        inZone(x, 2, "58 23 1 1 *");
        Due.is("the last one, of 2200", x.next(7, LAST - 1000, 20000), LAST);
    }

    private static void nextRefusesMinutes() {
        Due.sentence("Promise 14", "IllegalArgument: the minute is none");
        CalendarOrders x = with("* * * * *");
        for (int bad : NO_MINUTES) {
            Due.refuses("next(0, " + bad + ", 1)", ARGUMENT, () -> x.next(0, bad, 1));
        }
        Due.is("next(0, 0, 1)", x.next(0, 0, 1), 1);
        Due.is("next(0, last, 1)", x.next(0, LAST, 1), -1);
    }

    private static void nextRefusesDays() {
        Due.sentence("Promise 14", "days are not 0 .. 20000");
        CalendarOrders x = with("* * * * *");
        for (int bad : new int[] {LEAST_INT, -1, 20001, GREATEST_INT}) {
            Due.refuses("next(0, 5, " + bad + ")", ARGUMENT, () -> x.next(0, 5, bad));
            Due.refuses("next(0, last, " + bad + ")", ARGUMENT, () -> x.next(0, LAST, bad));
        }
        Due.is("next(0, 5, 0)", x.next(0, 5, 0), -1);
        Due.is("next(0, 5, 20000)", x.next(0, 5, 20000), 6);
    }

    private static void beforeIsBefore() {
        Due.sentence("Promise 15", "The greatest minute before one, likewise.");
        CalendarOrders x = with("* * * * *", "0 0 1 1 *", "59 23 31 12 *");
        Due.is("not the last one itself", x.before(0, LAST, 1), LAST - 1);
        Due.is("the first of all", x.before(0, 1, 1), 0);
        Due.is("a year earlier, not it", x.before(1, 365 * 1440, 20000), 0);
        Due.is("from the minute behind", x.before(1, 365 * 1440 + 1, 1), 365 * 1440);
        Due.is("the first of all, from afar", x.before(1, 364 * 1440, 20000), 0);
        Due.is("the year before the last", x.before(2, LAST, 20000), LAST - 365 * 1440);
    }

    private static void beforeIsNotTooFar() {
        Due.sentence("Promise 15", "likewise (at most so many days)");
        CalendarOrders x = with("* * * * *", "0 12 15 6 * 1950");
        int only = x.minute(0, 1950, 6, 15, 12, 0);
        Due.is("no days", x.before(0, 77, 0), -1);
        for (int days : new int[] {1, 2, 31, 366, 12345, 20000}) {
            Due.is("just " + days + " days", x.before(1, only + days * 1440, days), only);
            Due.is("a minute more than " + days + " days", x.before(1, only + days * 1440 + 1, days), -1);
            Due.is("a minute less than " + days + " days", x.before(1, only + days * 1440 - 1, days), only);
        }
        Due.is("20000 days, but 19999 asked for", x.before(1, only + FARTHEST, 19999), -1);
    }

    private static void beforeIsNone() {
        Due.sentence("Promise 15", "likewise (NONE)");
        CalendarOrders x = with("* * * * *", "0 0 30 2 *", "59 23 31 12 * 2199");
        Due.is("none before the first minute", x.before(0, 0, 20000), -1);
        Due.is("none before the first minute, no days", x.before(0, 0, 0), -1);
        Due.is("30 February", x.before(1, LAST, 20000), -1);
        Due.is("only the last minute", x.before(2, LAST, 20000), -1);
        x.zone(1, -1439);
        inZone(x, 1, "0 0 31 12 *");
        Due.is("a minute before the first", x.before(3, 1000, 20000), -1);
        inZone(x, 1, "1 0 31 12 *");
        Due.is("the first one, of 1899", x.before(4, 1000, 20000), 0);
    }

    private static void beforeRefuses() {
        Due.sentence("Promise 15", "likewise (IllegalArgument: the minute is none, days are not 0 .. 20000)");
        CalendarOrders x = with("* * * * *");
        for (int bad : NO_MINUTES) {
            Due.refuses("before(0, " + bad + ", 1)", ARGUMENT, () -> x.before(0, bad, 1));
        }
        for (int bad : new int[] {LEAST_INT, -1, 20001, GREATEST_INT}) {
            Due.refuses("before(0, 5, " + bad + ")", ARGUMENT, () -> x.before(0, 5, bad));
            Due.refuses("before(0, 0, " + bad + ")", ARGUMENT, () -> x.before(0, 0, bad));
        }
        Due.is("before(0, 0, 0)", x.before(0, 0, 0), -1);
        Due.is("before(0, last, 20000)", x.before(0, LAST, 20000), LAST - 1);
    }

    private static void betweenCounts() {
        Due.sentence("Promise 16", "How many minutes behind one, up to another one, match.");
        CalendarOrders x = with("* * * * *", "30 12 * * *", "0 0 1 1 *", "59 23 31 12 *");
        Due.is("nothing lies between", x.between(0, 500, 500), 0);
        Due.is("nothing at 0", x.between(0, 0, 0), 0);
        Due.is("nothing at the last minute", x.between(0, LAST, LAST), 0);
        Due.is("the second one counts", x.between(0, 500, 501), 1);
        Due.is("behind one that matches", x.between(1, 750, 751), 0);
        Due.is("up to one that matches", x.between(1, 749, 750), 1);
        Due.is("up to the one before", x.between(1, 748, 749), 0);
        Due.is("from one to the next", x.between(1, 750, 750 + 1440), 1);
        Due.is("to just before the next", x.between(1, 750, 749 + 1440), 0);
        Due.is("the first minute is behind none", x.between(2, 0, 365 * 1440 - 1), 0);
        Due.is("a year later", x.between(2, 0, 365 * 1440), 1);
        Due.is("the last minute", x.between(3, LAST - 1, LAST), 1);
        Due.is("a year before it", x.between(3, LAST - 365 * 1440, LAST), 1);
        Due.is("a year and a minute before it", x.between(3, LAST - 365 * 1440 - 1, LAST), 2);
    }

    private static void betweenAtMost() {
        Due.sentence("Promise 16", "up to another one, match (all, and none)");
        CalendarOrders x = with("* * * * *", "0 0 30 2 *", "0 0 * * *");
        x.zone(1, -1439);
        x.zone(2, 1439);
        inZone(x, 1, "* * * * *");
        inZone(x, 2, "* * * * *");
        for (int from : new int[] {0, 1, 77777777, LAST - FARTHEST - 1, LAST - FARTHEST}) {
            Due.is("all of 20000 days", x.between(0, from, from + FARTHEST), FARTHEST);
            Due.is("none of 20000 days", x.between(1, from, from + FARTHEST), 0);
            Due.is("one a day", x.between(2, from, from + FARTHEST), 20000);
            Due.is("all with -1439", x.between(3, from, from + FARTHEST), FARTHEST);
            Due.is("all with 1439", x.between(4, from, from + FARTHEST), FARTHEST);
        }
    }

    private static void betweenRefusesMinutes() {
        Due.sentence("Promise 16", "IllegalArgument: one is none");
        CalendarOrders x = with("* * * * *");
        for (int bad : NO_MINUTES) {
            Due.refuses("between(0, " + bad + ", 5)", ARGUMENT, () -> x.between(0, bad, 5));
            Due.refuses("between(0, last, " + bad + ")", ARGUMENT, () -> x.between(0, LAST, bad));
            Due.refuses("both are " + bad, ARGUMENT, () -> x.between(0, bad, bad));
        }
        Due.refuses("the first one is -1", ARGUMENT, () -> x.between(0, -1, 0));
        Due.refuses("the second one is too great", ARGUMENT, () -> x.between(0, LAST, LAST + 1));
        Due.is("from the first minute", x.between(0, 0, 5), 5);
        Due.is("to the last minute", x.between(0, LAST - 5, LAST), 5);
    }

    private static void betweenRefusesStretches() {
        Due.sentence("Promise 16", "the second one is less, or more than 20000 days behind");
        CalendarOrders x = with("* * * * *");
        Due.refuses("one less", ARGUMENT, () -> x.between(0, 500, 499));
        Due.refuses("the least", ARGUMENT, () -> x.between(0, LAST, 0));
        Due.is("the same", x.between(0, 500, 500), 0);
        Due.is("just 20000 days", x.between(0, 500, 500 + FARTHEST), FARTHEST);
        Due.refuses("a minute more", ARGUMENT, () -> x.between(0, 500, 501 + FARTHEST));
        Due.refuses("all that there are", ARGUMENT, () -> x.between(0, 0, LAST));
    }

    /** Which times of a day match is told by hand here, and looked at minute by minute. */
    private static void searchesFromEveryMinute() {
        Due.sentence("Promise 14", "The least minute behind one that matches (from every minute of two days)");
        String[] texts = {"0,30,59 0,5,23 * * *", "7 * * * *", "* 13 * * *", "0 0 * * *", "59 23 * * *", "*/59 */23 * * *"};
        int[][] minutes = {{0, 30, 59}, {7}, null, {0}, {59}, {0, 59}};
        int[][] hours = {{0, 5, 23}, null, {13}, {0}, {23}, {0, 23}};
        for (int t = 0; t < texts.length; t++) {
            boolean[] due = new boolean[4 * 1440 + 1];
            for (int m = 0; m < due.length; m++) {
                due[m] = isIn(minutes[t], m % 60) && isIn(hours[t], m / 60 % 24);
            }
            CalendarOrders x = with(texts[t]);
            for (int m = 1440; m <= 3 * 1440; m++) {
                if (m % 120 == 0) {
                    x = with(texts[t]);
                }
                Due.is(texts[t] + ": matches at " + m, x.matches(0, m), due[m]);
                Due.is(texts[t] + ": next from " + m, x.next(0, m, 1), nextDue(due, m));
                Due.is(texts[t] + ": before " + m, x.before(0, m, 1), dueBefore(due, m));
                Due.is(texts[t] + ": between 1440 and " + m, x.between(0, 1440, m), dueIn(due, 1440, m));
            }
        }
    }

    private static boolean isIn(int[] numbers, int number) {
        if (numbers == null) {
            return true;
        }
        for (int n : numbers) {
            if (n == number) {
                return true;
            }
        }
        return false;
    }

    private static int nextDue(boolean[] due, int minute) {
        for (int m = minute + 1; m <= minute + 1440; m++) {
            if (due[m]) {
                return m;
            }
        }
        return -1;
    }

    private static int dueBefore(boolean[] due, int minute) {
        for (int m = minute - 1; m >= minute - 1440; m--) {
            if (due[m]) {
                return m;
            }
        }
        return -1;
    }

    private static int dueIn(boolean[] due, int minute, int last) {
        int n = 0;
        for (int m = minute + 1; m <= last; m++) {
            n += due[m] ? 1 : 0;
        }
        return n;
    }

    private static void searchesOverYears() {
        Due.sentence("Promise 14", "The least minute behind one that matches (over months and years)");
        for (int year : new int[] {1900, 1950, 2000, 2100, 2199}) {
            for (int month = 1; month <= 12; month++) {
                CalendarOrders x = with("0 0 5 " + month + " * " + year);
                int only = x.minute(0, year, month, 5, 0, 0);
                int far = Math.max(0, only - 400 * 1440);
                int behind = Math.min(LAST, only + 400 * 1440);
                Due.is("next, " + year + "-" + month, x.next(0, far, 400), only);
                Due.is("none behind, " + year + "-" + month, x.next(0, only, 20000), -1);
                Due.is("before, " + year + "-" + month, x.before(0, behind, 400), only);
                Due.is("none before, " + year + "-" + month, x.before(0, only, 20000), -1);
                Due.is("between, " + year + "-" + month, x.between(0, far, behind), 1);
            }
        }
    }

    /** Whether a minute of a zone is one of those that a search finds, by civil() alone. */
    private static boolean standsAt(CalendarOrders x, int minute, int hour, int itsMinute) {
        return x.civil(1, minute, 4) == hour && x.civil(1, minute, 5) == itsMinute;
    }

    private static void searchesOverChanges() {
        Due.sentence("Terms", "a civil time may come twice, or not at all. (next, before, between)");
        int[][] zones = {{60, 5000, 0, 5300, 90}, {-1439, 5000, 1439}, {1439, 5000, -1439}, {0, 5000, 1, 5001, 0, 5002, 1, 5003, 0}};
        for (int[] zone : zones) {
            for (int time = 4800; time < 5400; time += 37) {
                CalendarOrders x = new CalendarOrders();
                x.zone(1, zone[0]);
                for (int i = 1; i < zone.length; i += 2) {
                    x.change(1, zone[i], zone[i + 1]);
                }
                int hour = x.civil(1, time, 4);
                int minute = x.civil(1, time, 5);
                int order = inZone(x, 1, minute + " " + hour + " * * *");
                int found = x.next(order, 0, 20000);
                int steps = 0;
                for (int n = 0; n < 12 && found != -1; n++) {
                    Due.is("what next() found stands there", standsAt(x, found, hour, minute), true);
                    Due.is("matches() says so", x.matches(order, found), true);
                    int behind = x.next(order, found, 20000);
                    Due.is("before() goes back", x.before(order, behind, 20000), found);
                    Due.is("between() counts one", x.between(order, found, behind), 1);
                    steps++;
                    found = behind;
                }
                Due.is("between() counts all", x.between(order, 0, found), steps + 1);
                Due.is("the minute itself was found", x.next(order, time - 1, 1), time);
            }
        }
    }

    private static void indexFirst() {
        Due.sentence("Terms", "Of several the first in this order. (the orders' calls)");
        CalendarOrders x = with("* * * * *");
        Due.refuses("told", INDEX, () -> x.told(1, 11));
        Due.refuses("field", INDEX, () -> x.field(12, 5));
        Due.refuses("day, how", INDEX, () -> x.day(1, 4, 2000, 1, 1));
        Due.refuses("day, date", INDEX, () -> x.day(-1, 0, 1898, 13, 32));
        Due.refuses("matches", INDEX, () -> x.matches(1, -1));
        Due.refuses("next", INDEX, () -> x.next(1, -1, 20001));
        Due.refuses("before", INDEX, () -> x.before(12, LAST + 1, -1));
        Due.refuses("between", INDEX, () -> x.between(-1, 5, 4));
    }
}
