/** Promises 9, 10 and 12 to 16: cancel, told, day, matches, next, before, between. */
public final class OrdersTest {
    private static final int LAST = 157785119;
    private static final Class<IndexOutOfBoundsException> INDEX = IndexOutOfBoundsException.class;
    private static final Class<IllegalArgumentException> ARGUMENT = IllegalArgumentException.class;

    public static void main(String[] args) {
        cancel();
        told();
        daysByDay();
        daysByWeekday();
        daysByBoth();
        dayRefuses();
        matches();
        next();
        before();
        between();
        zonesThatChange();
        Due.end("OrdersTest");
    }

    private static int at(int year, int month, int day) {
        return TimeTest.at(year, month, day);
    }

    private static void cancel() {
        CalendarOrders x = new CalendarOrders();
        for (int n = 0; n < 3; n++) {
            Due.text(x, "* * * * *");
            x.order(0, 0, 0, 2, 10);
        }
        x.pass(2);
        Due.is("promise 9: runs before", x.count(5), 3);
        Due.is("promise 9: two are left", x.cancel(1), 2);
        Due.is("promise 9: its runs go", x.count(5), 2);
        Due.is("promise 9: lines stay", x.count(3), 6);
        Due.refuses("promise 9: it is gone", INDEX, () -> x.cancel(1));
        Due.refuses("promise 9: no order 12", INDEX, () -> x.cancel(12));
        Due.refuses("promise 9: no order -1", INDEX, () -> x.cancel(-1));
        Due.is("promise 9: the others stay", x.told(2, 5), 1);
        x.tear();
        x.pass(9);
        for (int line = 0; line < x.count(3); line++) {
            Due.is("promise 9: not told any more", x.log(line, 1) == 1, false);
        }
        Due.text(x, "0 0 1 1 *");
        Due.is("promise 9: the number is free", x.order(0, 0, 0, 2, 10), 1);
        for (int what = 5; what <= 8; what++) {
            Due.is("promise 9: nothing is left for the next one, " + what, x.told(1, what), 0);
        }
        x.cancel(0);
        x.cancel(1);
        Due.is("promise 9: none is left", x.cancel(2), 0);
    }

    private static void told() {
        CalendarOrders x = new CalendarOrders();
        Due.text(x, "* * */2 * 5");
        x.order(3, 1, 77, 2, 4);
        Due.text(x, "*/2 * 2,* * *,5");
        x.order(1, 2, 9, 1, 4);
        Due.text(x, "* * * * *");
        x.order(0, 0, 0, 2, 4);
        x.pass(5);
        int[] first = {3, 1, 77, 2, 4, 0, 0, 0, 0, 1, 0};
        int[] second = {1, 2, 9, 1, 4, 1, 0, 1, 1, 0, 1};
        int[] third = {0, 0, 0, 2, 4, 1, 1, 2, 2, 1, 1};
        for (int what = 0; what <= 10; what++) {
            Due.is("promise 10: of the first, " + what, x.told(0, what), first[what]);
            Due.is("promise 10: of the second, " + what, x.told(1, what), second[what]);
            Due.is("promise 10: of the third, " + what, x.told(2, what), third[what]);
        }
        Due.refuses("promise 10: order first", INDEX, () -> x.told(3, 11));
        Due.refuses("promise 10: order -1", INDEX, () -> x.told(-1, 0));
        Due.refuses("promise 10: what 11", ARGUMENT, () -> x.told(0, 11));
        Due.refuses("promise 10: what -1", ARGUMENT, () -> x.told(0, -1));
    }

    private static void daysByDay() {
        Texts.days("* * 3,30,31 2 *", 0, 2024, 4, "3 30");
        Texts.days("* * L * *", 0, 2024, 2, "29");
        Texts.days("* * L * *", 0, 2023, 2, "28");
        Texts.days("* * L * *", 0, 2024, 4, "30");
        Texts.days("* * L-1,L-2 * *", 0, 2024, 5, "29 30");
        Texts.days("* * L-30 * *", 0, 2024, 5, "1");
        Texts.days("* * L-30 * *", 0, 2024, 4, "");
        Texts.days("* * L-28 * *", 0, 2024, 2, "1");
        Texts.days("* * L-28 * *", 0, 2023, 2, "");
        // June 2024 begins on a Saturday and ends on a Sunday.
        Texts.days("* * LW * *", 0, 2024, 6, "28");
        Texts.days("* * 30W * *", 0, 2024, 6, "28");
        Texts.days("* * 1W * *", 0, 2024, 6, "3");
        Texts.days("* * 2W * *", 0, 2024, 6, "3");
        Texts.days("* * 3W * *", 0, 2024, 6, "3");
        Texts.days("* * 8W * *", 0, 2024, 6, "7");
        Texts.days("* * 9W * *", 0, 2024, 6, "10");
        Texts.days("* * 29W * *", 0, 2024, 6, "28");
        Texts.days("* * 31W * *", 0, 2024, 6, "");
        // August 2024 ends on a Saturday, September begins on a Sunday.
        Texts.days("* * LW * *", 0, 2024, 8, "30");
        Texts.days("* * 31W * *", 0, 2024, 8, "30");
        Texts.days("* * 1W * *", 0, 2024, 9, "2");
        Texts.days("* * LW * *", 0, 2024, 9, "30");
        Texts.days("* * 30W,29W * *", 0, 2024, 9, "30");
        Texts.days("* * L,LW,5W,7 * *", 0, 2024, 6, "5 7 28 30");
        Texts.days("* * L * *", 0, 1899, 12, "31");
        Texts.days("* * 1W * *", 0, 2200, 2, "3");
    }

    private static void daysByWeekday() {
        Texts.days("* * 1 * mon", 1, 2024, 6, "3 10 17 24");
        Texts.days("* * 1 * 7", 1, 2024, 6, "2 9 16 23 30");
        Texts.days("* * 1 * 6L", 1, 2024, 6, "29");
        Texts.days("* * 1 * 7L", 1, 2024, 6, "30");
        Texts.days("* * 1 * sunL", 1, 2024, 6, "30");
        Texts.days("* * 1 * monL", 1, 2024, 6, "24");
        Texts.days("* * 1 * sat#1", 1, 2024, 6, "1");
        Texts.days("* * 1 * 7#5", 1, 2024, 6, "30");
        Texts.days("* * 1 * mon#5", 1, 2024, 6, "");
        Texts.days("* * 1 * fri#2,wed#3", 1, 2024, 6, "14 19");
        Texts.days("* * 1 * tue#4,0", 1, 2024, 6, "2 9 16 23 25 30");
        Texts.days("* * 1 * thuL", 1, 2024, 2, "29");
    }

    private static void daysByBoth() {
        Texts.days("* * 3,10,11 * mon", 2, 2024, 6, "3 10 11 17 24");
        Texts.days("* * */5 * mon", 2, 2024, 6, "");
        Texts.days("* * */2 * mon", 2, 2024, 6, "3 17");
        Texts.days("* * *,5 * mon", 2, 2024, 6, "3 10 17 24");
        Texts.days("* * 5,* * mon", 2, 2024, 7, Texts.ALL_OF_31);
        Texts.days("* * 3-12 * */3", 2, 2024, 6, "5 8 9 12");
        Texts.days("* * L * monL", 2, 2024, 6, "24 30");
        Texts.days("* * * * monL", 2, 2024, 6, "24");
        Texts.days("* * LW 5 * 2023", 2, 2024, 6, "28");
        Texts.days("* * LW 5 * 2023", 3, 2024, 6, "");
        Texts.days("* * LW 5 * 2023", 3, 2023, 6, "");
        Texts.days("* * LW 5 * 2023", 3, 2024, 5, "");
        Texts.days("* * LW 5 * 2023", 3, 2023, 5, "31");
        Texts.days("* * 1 12,1 * */299", 3, 1900, 1, "1");
        Texts.days("* * 1 12,1 * */299", 3, 2199, 12, "1");
        Texts.days("* * 1 12,1 * */299", 3, 2198, 12, "");
        Texts.days("* * 1 12,1 * 1963-1964", 3, 1963, 12, "1");
        Texts.days("* * 1 12,1 * 1963-1964", 3, 1964, 1, "1");
        Texts.days("* * 1 12,1 * 1963-1964", 3, 1965, 1, "");
        Texts.days("* * 1 12,1 * 2190/5", 3, 2195, 1, "1");
        Texts.days("* * 1 12,1 *", 3, 1899, 12, "1");
        Texts.days("* * 1 12,1 *", 3, 2200, 1, "1");
        Texts.days("* * 1 12,1 * *", 3, 1899, 12, "");
        Texts.days("* * 1 12,1 * *", 3, 2200, 1, "");
    }

    private static void dayRefuses() {
        CalendarOrders x = new CalendarOrders();
        Due.order(x, "@daily");
        Due.refuses("promise 12: order first", INDEX, () -> x.day(1, 9, 9, 9, 9));
        Due.refuses("promise 12: how -1", ARGUMENT, () -> x.day(0, -1, 2000, 1, 1));
        Due.refuses("promise 12: how 4", ARGUMENT, () -> x.day(0, 4, 2000, 1, 1));
        Due.refuses("promise 12: 1898", ARGUMENT, () -> x.day(0, 0, 1898, 12, 31));
        Due.refuses("promise 12: 2201", ARGUMENT, () -> x.day(0, 0, 2201, 1, 1));
        Due.refuses("promise 12: month 0", ARGUMENT, () -> x.day(0, 0, 2000, 0, 1));
        Due.refuses("promise 12: month 13", ARGUMENT, () -> x.day(0, 0, 2000, 13, 1));
        Due.refuses("promise 12: day 0", ARGUMENT, () -> x.day(0, 0, 2000, 1, 0));
        Due.refuses("promise 12: day 31 of April", ARGUMENT, () -> x.day(0, 0, 2000, 4, 31));
        Due.refuses("promise 12: day 29 of February 2100", ARGUMENT, () -> x.day(0, 0, 2100, 2, 29));
    }

    private static void matches() {
        CalendarOrders x = new CalendarOrders();
        int order = Due.order(x, "30 6 15 3 * 2024");
        int minute = at(2024, 3, 15) + 6 * 60 + 30;
        Due.is("promise 13: it", x.matches(order, minute), true);
        Due.is("promise 13: a minute later", x.matches(order, minute + 1), false);
        Due.is("promise 13: an hour later", x.matches(order, minute + 60), false);
        Due.is("promise 13: a day later", x.matches(order, minute + 1440), false);
        Due.is("promise 13: a month later", x.matches(order, minute + 31 * 1440), false);
        Due.is("promise 13: a year later", x.matches(order, minute + 365 * 1440), false);
        Due.order(x, "0 0 1 1 *");
        Due.order(x, "59 23 31 12 *");
        Due.is("promise 13: the first minute", x.matches(1, 0), true);
        Due.is("promise 13: the last minute", x.matches(2, LAST), true);
        x.zone(0, -1);
        Due.is("promise 13: in 1899", x.matches(2, 0), true);
        x.zone(0, 1);
        Due.is("promise 13: in 2200", x.matches(1, LAST), true);
        Due.refuses("promise 13: order first", INDEX, () -> x.matches(3, -1));
        Due.refuses("promise 13: minute -1", ARGUMENT, () -> x.matches(0, -1));
        Due.refuses("promise 13: no such minute", ARGUMENT, () -> x.matches(0, LAST + 1));
    }

    private static void next() {
        CalendarOrders x = new CalendarOrders();
        int leap = Due.order(x, "15,45 3,21 29 2 *");
        int from = at(2096, 2, 29) + 21 * 60 + 45;
        Due.is("promise 14: within an hour", x.next(leap, from - 1, 1), from);
        Due.is("promise 14: behind, not at", x.next(leap, from - 30, 1), from);
        Due.is("promise 14: over eight years", x.next(leap, from, 20000), at(2104, 2, 29) + 3 * 60 + 15);
        int days = (at(2104, 2, 29) - at(2096, 2, 29)) / 1440;
        Due.is("promise 14: days too few", x.next(leap, at(2096, 2, 29) + 21 * 60 + 45, days - 1), -1);
        Due.is("promise 14: just so many days", x.next(leap, at(2104, 2, 29) + 195 - 1440, 1), at(2104, 2, 29) + 195);
        Due.is("promise 14: a minute too far", x.next(leap, at(2104, 2, 29) + 194 - 1440, 1), -1);
        Due.is("promise 14: no days", x.next(leap, from - 1, 0), -1);
        Due.order(x, "59 23 31 12 * 2199");
        Due.is("promise 14: the last minute", x.next(1, LAST - 20000 * 1440, 20000), LAST);
        Due.is("promise 14: one more day would not do", x.next(1, LAST - 20000 * 1440 - 1, 20000), -1);
        Due.is("promise 14: behind the last minute", x.next(1, LAST, 20000), -1);
        Due.order(x, "0 0 30 2 *");
        Due.is("promise 14: never", x.next(2, 0, 20000), -1);
        Due.refuses("promise 14: order first", INDEX, () -> x.next(3, -1, -1));
        Due.refuses("promise 14: minute -1", ARGUMENT, () -> x.next(0, -1, 0));
        Due.refuses("promise 14: no such minute", ARGUMENT, () -> x.next(0, LAST + 1, 0));
        Due.refuses("promise 14: days -1", ARGUMENT, () -> x.next(0, 0, -1));
        Due.refuses("promise 14: days 20001", ARGUMENT, () -> x.next(0, 0, 20001));
    }

    private static void before() {
        CalendarOrders x = new CalendarOrders();
        int leap = Due.order(x, "15,45 3,21 29 2 *");
        int until = at(2104, 2, 29) + 195;
        Due.is("promise 15: before, not at", x.before(leap, until, 20000), at(2096, 2, 29) + 21 * 60 + 45);
        Due.is("promise 15: a minute later", x.before(leap, until + 1, 1), until);
        Due.is("promise 15: within a day", x.before(leap, until + 600, 1), until + 30);
        Due.is("promise 15: just so many days", x.before(leap, at(2096, 2, 29) + 1305 + 1440, 1), at(2096, 2, 29) + 1305);
        Due.is("promise 15: a minute too far", x.before(leap, at(2096, 2, 29) + 1306 + 1440, 1), -1);
        Due.is("promise 15: no days", x.before(leap, until + 1, 0), -1);
        Due.order(x, "0 0 1 1 * 1900");
        Due.is("promise 15: the first minute", x.before(1, 20000 * 1440, 20000), 0);
        Due.is("promise 15: too far", x.before(1, 20000 * 1440 + 1, 20000), -1);
        Due.is("promise 15: before 0", x.before(1, 0, 20000), -1);
        Due.is("promise 15: before 1", x.before(1, 1, 20000), 0);
        Due.refuses("promise 15: order first", INDEX, () -> x.before(2, -1, -1));
        Due.refuses("promise 15: minute -1", ARGUMENT, () -> x.before(0, -1, 0));
        Due.refuses("promise 15: no such minute", ARGUMENT, () -> x.before(0, LAST + 1, 0));
        Due.refuses("promise 15: days -1", ARGUMENT, () -> x.before(0, 0, -1));
        Due.refuses("promise 15: days 20001", ARGUMENT, () -> x.before(0, 0, 20001));
    }

    private static void between() {
        CalendarOrders x = new CalendarOrders();
        Due.order(x, "* * * * *");
        Due.is("promise 16: all of 20000 days", x.between(0, 0, 28800000), 28800000);
        Due.is("promise 16: up to the last minute", x.between(0, LAST - 28800000, LAST), 28800000);
        Due.is("promise 16: nothing between", x.between(0, 77, 77), 0);
        Due.is("promise 16: one minute", x.between(0, 77, 78), 1);
        int order = Due.order(x, "*/20 8-9 * * mon-fri");
        int monday = at(2024, 6, 3);
        Due.is("promise 16: the second one counts", x.between(order, monday, monday + 480), 1);
        Due.is("promise 16: the first one does not", x.between(order, monday + 480, monday + 1439), 5);
        Due.is("promise 16: a week", x.between(order, monday, monday + 7 * 1440), 30);
        Due.is("promise 16: within an hour", x.between(order, monday + 490, monday + 510), 1);
        Due.is("promise 16: over the weekend", x.between(order, monday + 4 * 1440 + 500, monday + 7 * 1440 + 500), 6);
        Due.refuses("promise 16: order first", INDEX, () -> x.between(2, -1, -1));
        Due.refuses("promise 16: minute -1", ARGUMENT, () -> x.between(0, -1, 0));
        Due.refuses("promise 16: no such minute", ARGUMENT, () -> x.between(0, LAST, LAST + 1));
        Due.refuses("promise 16: the second is less", ARGUMENT, () -> x.between(0, 5, 4));
        Due.refuses("promise 16: too far", ARGUMENT, () -> x.between(0, 0, 28800001));
    }

    private static void zonesThatChange() {
        CalendarOrders x = new CalendarOrders();
        int day = at(2010, 6, 15);
        x.zone(1, 60);
        x.change(1, day + 120, 0);
        x.change(1, day + 600, 90);
        Due.text(x, "30 2,10 * * *");
        x.order(1, 0, 0, 0, 1);
        Due.is("comes first", x.next(0, day, 1), day + 90);
        Due.is("comes again", x.next(0, day + 90, 1), day + 150);
        Due.is("does not come that day any more", x.next(0, day + 150, 2), day + 1440 + 60);
        Due.is("back to the second time", x.before(0, day + 1440, 2), day + 150);
        Due.is("back to the first time", x.before(0, day + 150, 2), day + 90);
        Due.is("three of two days", x.between(0, day, day + 1440 + 60), 3);
        Due.is("matches at both", x.matches(0, day + 90) && x.matches(0, day + 150), true);
        x.zone(1, 0);
        Due.is("the zone is that of now", x.matches(0, day + 90), false);
    }
}
