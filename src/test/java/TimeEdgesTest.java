import java.time.LocalDateTime;
import java.time.YearMonth;
import java.time.temporal.ChronoUnit;

/** The boundary cases of 1 TIME, of the zones and of promises 1 to 5, sentence by sentence. */
public final class TimeEdgesTest {
    private static final int LAST = 157785119;
    private static final int LEAST_INT = Integer.MIN_VALUE;
    private static final int GREATEST_INT = Integer.MAX_VALUE;
    private static final LocalDateTime BEGINNING = LocalDateTime.of(1900, 1, 1, 0, 0);
    private static final Class<IndexOutOfBoundsException> INDEX = IndexOutOfBoundsException.class;
    private static final Class<IllegalArgumentException> ARGUMENT = IllegalArgumentException.class;
    private static final Class<IllegalStateException> STATE = IllegalStateException.class;

    public static void main(String[] args) {
        firstAndLastMinute();
        fiveHundredAndTwelveCalls();
        leapYears();
        zoneNumbers();
        offsetsAtBothEnds();
        changesSideBySide();
        rangesOfCivilTime();
        yearsBeforeAndBehind();
        timesThatComeTwiceOrNotAtAll();
        newObject();
        zoneBeginsAgain();
        zoneRefuses();
        changeCounts();
        changeRefusesMinutes();
        changeRefusesMinutesNotBehind();
        changeRefusesOffsets();
        changeRefusesThe21st();
        civilTellsEight();
        civilRefuses();
        minuteIsTheLeast();
        minuteIsNone();
        minuteRefusesYears();
        minuteRefusesDates();
        minuteRefusesTimes();
        indexFirst();
        Due.end("TimeEdgesTest");
    }

    /** All that civil() tells, against java.time. */
    private static void civilIs(CalendarOrders x, int z, int minute, int offset) {
        LocalDateTime t = BEGINNING.plusMinutes((long) minute + offset);
        int[] want = {t.getYear(), t.getMonthValue(), t.getDayOfMonth(), t.getDayOfWeek().getValue() % 7, t.getHour(),
            t.getMinute(), t.getDayOfYear(), YearMonth.from(t).lengthOfMonth()};
        for (int what = 0; what < 8; what++) {
            Due.is("civil(" + z + ", " + minute + ", " + what + ") with offset " + offset, x.civil(z, minute, what),
                want[what]);
        }
    }

    private static void civilAnswers(CalendarOrders x, int z, int minute, int... want) {
        for (int what = 0; what < 8; what++) {
            Due.is("civil(" + z + ", " + minute + ", " + what + ")", x.civil(z, minute, what), want[what]);
        }
    }

    private static void firstAndLastMinute() {
        Due.sentence("1 TIME", "from 0 (the first of January 1900, 0 o'clock, a Monday) to 157785119 (the last one of 2199)");
        CalendarOrders x = new CalendarOrders();
        civilAnswers(x, 0, 0, 1900, 1, 1, 1, 0, 0, 1, 31);
        civilAnswers(x, 0, LAST, 2199, 12, 31, 2, 23, 59, 365, 31);
        Due.is("the first minute", x.minute(0, 1900, 1, 1, 0, 0), 0);
        Due.is("the second minute", x.minute(0, 1900, 1, 1, 0, 1), 1);
        Due.is("the last minute", x.minute(0, 2199, 12, 31, 23, 59), LAST);
        Due.is("none before", x.minute(0, 1899, 12, 31, 23, 59), -1);
        Due.is("none behind", x.minute(0, 2200, 1, 1, 0, 0), -1);
    }

    private static void fiveHundredAndTwelveCalls() {
        Due.sentence("What it is", "An object is used for at most 512 calls after it has been made");
        CalendarOrders x = new CalendarOrders();
        x.feed(0x2a202a202a202a20L, 8);
        x.feed('*', 1);
        x.order(0, 0, 0, 0, 1);
        for (int call = 4; call <= 511; call++) {
            Due.is("call " + call, x.pass(1), call - 3);
        }
        Due.is("the 512th call", x.count(3), 508 + 507);
    }

    private static void leapYears() {
        Due.sentence("Terms", "The calendar is the usual one (1900 is no leap year, 2000 is one).");
        int[] leap = {1904, 1996, 2000, 2004, 2096, 2104, 2196};
        int[] usual = {1899, 1900, 1901, 1999, 2001, 2100, 2199, 2200};
        CalendarOrders x = new CalendarOrders();
        Due.order(x, "@daily");
        for (int year : leap) {
            int last = x.minute(0, year, 2, 29, 0, 0);
            Due.is("days of February " + year, x.civil(0, last, 7), 29);
            Due.is("the day behind it in " + year, x.civil(0, last + 1440, 1), 3);
            Due.is("days of " + year, x.civil(0, x.minute(0, year, 12, 31, 0, 0), 6), 366);
            Due.is("29 February " + year, x.day(0, 0, year, 2, 29), true);
            Due.refuses("30 February " + year, ARGUMENT, () -> x.day(0, 0, year, 2, 30));
        }
        for (int year : usual) {
            Due.refuses("minute on 29 February " + year, ARGUMENT, () -> x.minute(0, year, 2, 29, 0, 0));
            Due.refuses("day on 29 February " + year, ARGUMENT, () -> x.day(0, 0, year, 2, 29));
            Due.is("28 February " + year, x.day(0, 0, year, 2, 28), true);
            if (year > 1899 && year < 2200) {
                Due.is("days of February " + year, x.civil(0, x.minute(0, year, 2, 28, 23, 59), 7), 28);
                Due.is("days of " + year, x.civil(0, x.minute(0, year, 12, 31, 0, 0), 6), 365);
            }
        }
    }

    private static void zoneNumbers() {
        Due.sentence("Terms", "A ZONE 0 .. 3 has an OFFSET");
        CalendarOrders x = new CalendarOrders();
        for (int z = 0; z <= 3; z++) {
            x.zone(z, 10 + z);
        }
        for (int z = 0; z <= 3; z++) {
            Due.is("zone " + z + " has its own", x.civil(z, 0, 5), 10 + z);
            Due.is("changes of zone " + z, x.change(z, 5, 40 + z), 1);
        }
        for (int z = 0; z <= 3; z++) {
            Due.is("zone " + z + " changes alone", x.civil(z, 5, 5), 45 + z);
        }
        for (int z : new int[] {LEAST_INT, -1, 4, GREATEST_INT}) {
            Due.refuses("zone(" + z + ", 0)", INDEX, () -> x.zone(z, 0));
            Due.refuses("change(" + z + ", 9, 0)", INDEX, () -> x.change(z, 9, 0));
            Due.refuses("civil(" + z + ", 0, 0)", INDEX, () -> x.civil(z, 0, 0));
            Due.refuses("minute(" + z + ", ..)", INDEX, () -> x.minute(z, 2000, 1, 1, 0, 0));
            Due.refuses("order(" + z + ", ..)", INDEX, () -> x.order(z, 0, 0, 0, 1));
        }
    }

    private static void offsetsAtBothEnds() {
        Due.sentence("Terms", "(-1439 .. 1439 minutes) from the beginning on");
        for (int offset : new int[] {-1439, -1438, -1, 0, 1, 1438, 1439}) {
            CalendarOrders x = new CalendarOrders();
            x.zone(2, offset);
            for (int minute : new int[] {0, 1, 1438, 1439, 1440, 84959, 84960, LAST - 1440, LAST - 1, LAST}) {
                civilIs(x, 2, minute, offset);
            }
        }
        CalendarOrders x = new CalendarOrders();
        x.zone(0, -1439);
        civilAnswers(x, 0, 0, 1899, 12, 31, 0, 0, 1, 365, 31);
        x.zone(0, 1439);
        civilAnswers(x, 0, LAST, 2200, 1, 1, 3, 23, 58, 1, 31);
    }

    private static void changesSideBySide() {
        Due.sentence("Terms", "and up to 20 CHANGES: from a minute on it is another one");
        int[] firsts = {0, 100000, LAST - 19};
        for (int first : firsts) {
            CalendarOrders x = new CalendarOrders();
            x.zone(1, 700);
            for (int n = 1; n <= 20; n++) {
                Due.is("change " + n, x.change(1, first + n - 1, -1439 + 7 * n), n);
            }
            if (first > 0) {
                Due.is("the minute before the first", x.civil(1, first - 1, 5), (first - 1 + 700) % 60);
            }
            for (int n = 1; n <= 20; n++) {
                civilIs(x, 1, first + n - 1, -1439 + 7 * n);
            }
            civilIs(x, 1, LAST, -1439 + 140);
        }
    }

    private static void rangesOfCivilTime() {
        Due.sentence("Terms", "YEAR, MONTH (1 .. 12), DAY (1 .. 31), WEEKDAY (0 Sunday .. 6), HOUR, MINUTE");
        CalendarOrders x = new CalendarOrders();
        // The first Saturday of the world is its sixth day.
        Due.is("Saturday", x.civil(0, 6 * 1440 - 1, 3), 6);
        Due.is("Sunday", x.civil(0, 6 * 1440, 3), 0);
        Due.is("Monday", x.civil(0, 7 * 1440, 3), 1);
        for (int month = 1; month <= 12; month++) {
            int last = YearMonth.of(2199, month).lengthOfMonth();
            int minute = x.minute(0, 2199, month, last, 23, 59);
            civilIs(x, 0, minute, 0);
            if (minute < LAST) {
                civilIs(x, 0, minute + 1, 0);
            }
        }
        Due.is("the last minute of an hour", x.civil(0, 59, 5), 59);
        Due.is("the first one of the next", x.civil(0, 60, 5), 0);
        Due.is("the last hour", x.civil(0, 1439, 4), 23);
        Due.is("the first hour", x.civil(0, 1440, 4), 0);
    }

    private static void yearsBeforeAndBehind() {
        Due.sentence("Terms", "it may lie in 1899 or 2200 (usual as well)");
        CalendarOrders x = new CalendarOrders();
        x.zone(1, -1);
        x.zone(2, 1);
        civilAnswers(x, 1, 0, 1899, 12, 31, 0, 23, 59, 365, 31);
        civilAnswers(x, 1, 1, 1900, 1, 1, 1, 0, 0, 1, 31);
        civilAnswers(x, 2, LAST, 2200, 1, 1, 3, 0, 0, 1, 31);
        civilAnswers(x, 2, LAST - 1, 2199, 12, 31, 2, 23, 59, 365, 31);
        Due.is("minute of 1899", x.minute(1, 1899, 12, 31, 23, 59), 0);
        Due.is("minute of 2200", x.minute(2, 2200, 1, 1, 0, 0), LAST);
    }

    /** By looking at every minute round the changes, which the class does not. */
    private static int leastByLooking(int civil, int[] changes, int[] offsets, int first) {
        // No offset is greater than 1439.
        for (int minute = Math.max(0, civil - 1439); minute <= Math.min(LAST, civil + 1439); minute++) {
            int offset = first;
            for (int i = 0; i < changes.length && minute >= changes[i]; i++) {
                offset = offsets[i];
            }
            if (minute + offset == civil) {
                return minute;
            }
        }
        return -1;
    }

    private static void minutesRound(int[] changes, int[] offsets, int first, int step) {
        int from = Math.max(0, changes[0] - 3000);
        for (int civil = from - 1440; civil < from + 6000; civil += step * 100) {
            CalendarOrders x = new CalendarOrders();
            x.zone(3, first);
            for (int i = 0; i < changes.length; i++) {
                x.change(3, changes[i], offsets[i]);
            }
            for (int i = 0; i < 100; i++) {
                int stands = civil + i * step;
                LocalDateTime t = BEGINNING.plusMinutes(stands);
                int got = x.minute(3, t.getYear(), t.getMonthValue(), t.getDayOfMonth(), t.getHour(), t.getMinute());
                Due.is("minute of " + t, got, leastByLooking(stands, changes, offsets, first));
            }
        }
    }

    private static void timesThatComeTwiceOrNotAtAll() {
        Due.sentence("Terms", "So a civil time may come twice, or not at all.");
        minutesRound(new int[] {50000, 50480}, new int[] {0, 90}, 60, 1);
        minutesRound(new int[] {50000}, new int[] {1439}, -1439, 7);
        minutesRound(new int[] {50000}, new int[] {-1439}, 1439, 7);
        minutesRound(new int[] {50000, 50001, 50002, 50500}, new int[] {-1439, 1439, -1439, 0}, 1439, 7);
        minutesRound(new int[] {LAST - 700, LAST - 1, LAST}, new int[] {-5, 1439, -1439}, 60, 7);
        minutesRound(new int[] {0, 1, 700}, new int[] {5, -5, 1439}, 60, 3);
    }

    private static void newObject() {
        Due.sentence("Promise 1", "All OFFSETS 0, no CHANGES, no ORDERS, an empty tape and LOG, THE CLOCK at 0, AWAKE.");
        CalendarOrders x = new CalendarOrders();
        for (int z = 0; z < 4; z++) {
            civilAnswers(x, z, 0, 1900, 1, 1, 1, 0, 0, 1, 31);
            civilAnswers(x, z, LAST, 2199, 12, 31, 2, 23, 59, 365, 31);
            for (int n = 1; n <= 20; n++) {
                Due.is("change of zone " + z, x.change(z, n - 1, 0), n);
            }
        }
        int[] counts = {0, 1, 0, 0, 0, 0};
        for (int what = 0; what < 6; what++) {
            Due.is("count(" + what + ")", x.count(what), counts[what]);
        }
        for (int o = 0; o < 12; o++) {
            int order = o;
            Due.refuses("told(" + o + ", 0)", INDEX, () -> x.told(order, 0));
        }
        Due.refuses("log(0, 0)", INDEX, () -> x.log(0, 0));
        Due.refuses("wake()", STATE, x::wake);
        Due.is("tear()", x.tear(), 0);
        Due.is("fault()", x.fault(), 0);
        Due.is("the first order", Due.order(x, "@daily"), 0);
    }

    private static void zoneBeginsAgain() {
        Due.sentence("Promise 2", "A zone has an OFFSET from the beginning on, and no CHANGES.");
        CalendarOrders x = new CalendarOrders();
        for (int n = 1; n <= 20; n++) {
            x.change(0, LAST - 20 + n, 5);
        }
        x.zone(0, -7);
        civilIs(x, 0, 0, -7);
        civilIs(x, 0, LAST - 19, -7);
        civilIs(x, 0, LAST, -7);
        for (int n = 1; n <= 20; n++) {
            Due.is("the changes begin again", x.change(0, n - 1, n), n);
        }
        x.zone(0, -7);
        civilIs(x, 0, 0, -7);
        Due.is("a change at 0 again", x.change(0, 0, 3), 1);
    }

    private static void zoneRefuses() {
        Due.sentence("Promise 2", "IllegalArgument: the OFFSET.");
        CalendarOrders x = new CalendarOrders();
        for (int offset : new int[] {-1439, 1439}) {
            x.zone(3, offset);
            civilIs(x, 3, 5000, offset);
        }
        for (int offset : new int[] {LEAST_INT, -1441, -1440, 1440, 1441, GREATEST_INT}) {
            Due.refuses("zone(3, " + offset + ")", ARGUMENT, () -> x.zone(3, offset));
            civilIs(x, 3, 5000, 1439);
        }
    }

    private static void changeCounts() {
        Due.sentence("Promise 3", "A CHANGE more of a zone: how many it has.");
        CalendarOrders x = new CalendarOrders();
        Due.is("the first one", x.change(0, 10, 1), 1);
        Due.is("of another zone", x.change(1, 10, 1), 1);
        Due.is("the second one", x.change(0, 11, 2), 2);
        civilIs(x, 0, 9, 0);
        civilIs(x, 0, 10, 1);
        civilIs(x, 0, 11, 2);
        civilIs(x, 1, 11, 1);
    }

    private static void changeRefusesMinutes() {
        Due.sentence("Promise 3", "IllegalArgument: the minute is none");
        CalendarOrders x = new CalendarOrders();
        for (int minute : new int[] {LEAST_INT, -1, LAST + 1, GREATEST_INT}) {
            Due.refuses("change(0, " + minute + ", 5)", ARGUMENT, () -> x.change(0, minute, 5));
        }
        Due.is("change(0, 0, 5)", x.change(0, 0, 5), 1);
        civilIs(x, 0, 0, 5);
        Due.is("change(0, last, 6)", x.change(0, LAST, 6), 2);
        civilIs(x, 0, LAST - 1, 5);
        civilIs(x, 0, LAST, 6);
    }

    private static void changeRefusesMinutesNotBehind() {
        Due.sentence("Promise 3", "or not behind its latest CHANGE");
        CalendarOrders x = new CalendarOrders();
        x.change(0, 500, 5);
        for (int minute : new int[] {0, 499, 500}) {
            Due.refuses("change(0, " + minute + ", 6)", ARGUMENT, () -> x.change(0, minute, 6));
        }
        Due.is("the minute behind", x.change(0, 501, 7), 2);
        Due.refuses("the same one again", ARGUMENT, () -> x.change(0, 501, 7));
        civilIs(x, 0, 500, 5);
        civilIs(x, 0, 501, 7);
        Due.is("another zone's latest does not count", x.change(1, 500, 6), 1);
        x.change(2, LAST, 0);
        Due.refuses("none is behind the last minute", ARGUMENT, () -> x.change(2, LAST, 0));
    }

    private static void changeRefusesOffsets() {
        Due.sentence("Promise 3", "the OFFSET");
        CalendarOrders x = new CalendarOrders();
        for (int offset : new int[] {LEAST_INT, -1440, 1440, GREATEST_INT}) {
            Due.refuses("change(0, 5, " + offset + ")", ARGUMENT, () -> x.change(0, 5, offset));
        }
        Due.is("the least offset", x.change(0, 5, -1439), 1);
        Due.is("the greatest offset", x.change(0, 6, 1439), 2);
        Due.is("the same offset again", x.change(0, 7, 1439), 3);
        civilIs(x, 0, 4, 0);
        civilIs(x, 0, 5, -1439);
        civilIs(x, 0, 6, 1439);
    }

    private static void changeRefusesThe21st() {
        Due.sentence("Promise 3", "IllegalState: it has 20.");
        CalendarOrders x = new CalendarOrders();
        for (int n = 1; n <= 19; n++) {
            x.change(3, n, n);
        }
        Due.is("the 20th", x.change(3, 20, 20), 20);
        Due.refuses("the 21st", STATE, () -> x.change(3, 21, 21));
        Due.refuses("the 21st at the last minute", STATE, () -> x.change(3, LAST, 21));
        civilIs(x, 3, 21, 20);
        civilIs(x, 3, LAST, 20);
        Due.refuses("not behind, and full", ARGUMENT, () -> x.change(3, 20, 21));
        Due.refuses("no minute, and full", ARGUMENT, () -> x.change(3, LAST + 1, 21));
        Due.refuses("no offset, and full", ARGUMENT, () -> x.change(3, 21, 1440));
        Due.is("other zones are not full", x.change(2, 1, 1), 1);
    }

    private static void civilTellsEight() {
        Due.sentence("Promise 4", "which day of its YEAR it is (6, from 1 on), how many days its MONTH has (7)");
        CalendarOrders x = new CalendarOrders();
        for (int year : new int[] {1900, 1904, 2000, 2023, 2100, 2196, 2199}) {
            civilIs(x, 0, x.minute(0, year, 1, 1, 0, 0), 0);
            civilIs(x, 0, x.minute(0, year, 2, 28, 0, 0), 0);
            civilIs(x, 0, x.minute(0, year, 3, 1, 0, 0), 0);
            civilIs(x, 0, x.minute(0, year, 12, 31, 23, 59), 0);
        }
    }

    private static void civilRefuses() {
        Due.sentence("Promise 4", "IllegalArgument: the minute, another what.");
        CalendarOrders x = new CalendarOrders();
        for (int bad : new int[] {LEAST_INT, -1, LAST + 1, GREATEST_INT}) {
            Due.refuses("civil(0, " + bad + ", 0)", ARGUMENT, () -> x.civil(0, bad, 0));
        }
        for (int bad : new int[] {LEAST_INT, -1, 8, GREATEST_INT}) {
            Due.refuses("civil(0, 0, " + bad + ")", ARGUMENT, () -> x.civil(0, 0, bad));
        }
        Due.is("the last minute, the last what", x.civil(0, LAST, 7), 31);
        Due.is("the first minute, the first what", x.civil(0, 0, 0), 1900);
    }

    private static void minuteIsTheLeast() {
        Due.sentence("Promise 5", "The least minute with a CIVIL TIME in a zone");
        CalendarOrders x = new CalendarOrders();
        x.zone(0, 1);
        for (int n = 1; n <= 20; n++) {
            // Each minute of the world stands at the same civil time.
            x.change(0, n, 1 - n);
        }
        Due.is("it comes 21 times", x.minute(0, 1900, 1, 1, 0, 1), 0);
        Due.is("and goes on", x.minute(0, 1900, 1, 1, 0, 2), 21);
        x.zone(1, 0);
        x.change(1, LAST, -1);
        Due.is("it comes twice at the end", x.minute(1, 2199, 12, 31, 23, 58), LAST - 1);
        x.zone(2, 0);
        x.change(2, LAST, -2);
        Due.is("the first time of three minutes", x.minute(2, 2199, 12, 31, 23, 57), LAST - 2);
    }

    private static void minuteIsNone() {
        Due.sentence("Promise 5", "NONE when there is none");
        CalendarOrders x = new CalendarOrders();
        Due.is("NONE", CalendarOrders.NONE, -1);
        Due.is("the first of 1899", x.minute(0, 1899, 1, 1, 0, 0), -1);
        Due.is("the last of 2200", x.minute(0, 2200, 12, 31, 23, 59), -1);
        x.zone(1, -1439);
        Due.is("a minute before the world", x.minute(1, 1899, 12, 31, 0, 0), -1);
        Due.is("its first minute", x.minute(1, 1899, 12, 31, 0, 1), 0);
        Due.is("its last minute", x.minute(1, 2199, 12, 31, 0, 0), LAST);
        Due.is("a minute behind it", x.minute(1, 2199, 12, 31, 0, 1), -1);
        x.zone(2, 1439);
        Due.is("with 1439, a minute before the world", x.minute(2, 1900, 1, 1, 23, 58), -1);
        Due.is("with 1439, its first minute", x.minute(2, 1900, 1, 1, 23, 59), 0);
        Due.is("with 1439, its last minute", x.minute(2, 2200, 1, 1, 23, 58), LAST);
        Due.is("with 1439, a minute behind it", x.minute(2, 2200, 1, 1, 23, 59), -1);
        x.change(3, 0, 1);
        Due.is("a change at 0 leaves no minute before", x.minute(3, 1900, 1, 1, 0, 0), -1);
        x.change(3, LAST, 2);
        Due.is("a change at the last minute skips one", x.minute(3, 2200, 1, 1, 0, 0), -1);
        Due.is("and comes to the next", x.minute(3, 2200, 1, 1, 0, 1), LAST);
    }

    private static void minuteRefusesYears() {
        Due.sentence("Promise 5", "IllegalArgument: YEAR is not 1899 .. 2200");
        CalendarOrders x = new CalendarOrders();
        for (int year : new int[] {LEAST_INT, 0, 1898, 2201, GREATEST_INT}) {
            Due.refuses("year " + year, ARGUMENT, () -> x.minute(0, year, 12, 31, 23, 59));
        }
        Due.is("1899", x.minute(0, 1899, 12, 31, 23, 59), -1);
        Due.is("2200", x.minute(0, 2200, 1, 1, 0, 0), -1);
        Due.is("1900", x.minute(0, 1900, 12, 31, 23, 59), 365 * 1440 - 1);
    }

    private static void minuteRefusesDates() {
        Due.sentence("Promise 5", "or there is no such MONTH, DAY, HOUR, MINUTE (MONTH, DAY)");
        CalendarOrders x = new CalendarOrders();
        for (int month : new int[] {LEAST_INT, -1, 0, 13, GREATEST_INT}) {
            Due.refuses("month " + month, ARGUMENT, () -> x.minute(0, 2000, month, 1, 0, 0));
        }
        for (int year : new int[] {1899, 1900, 1999, 2000, 2100, 2200}) {
            for (int m = 1; m <= 12; m++) {
                int month = m;
                int last = YearMonth.of(year, m).lengthOfMonth();
                Due.takes("the last day of " + year + "-" + m, () -> x.minute(0, year, month, last, 0, 0));
                Due.refuses("one more day of " + year + "-" + m, ARGUMENT, () -> x.minute(0, year, month, last + 1, 0, 0));
                Due.refuses("day 0 of " + year + "-" + m, ARGUMENT, () -> x.minute(0, year, month, 0, 0, 0));
            }
        }
        for (int day : new int[] {LEAST_INT, -1, GREATEST_INT}) {
            Due.refuses("day " + day, ARGUMENT, () -> x.minute(0, 2000, 1, day, 0, 0));
        }
    }

    private static void minuteRefusesTimes() {
        Due.sentence("Promise 5", "or there is no such MONTH, DAY, HOUR, MINUTE (HOUR, MINUTE)");
        CalendarOrders x = new CalendarOrders();
        for (int hour : new int[] {LEAST_INT, -1, 24, GREATEST_INT}) {
            Due.refuses("hour " + hour, ARGUMENT, () -> x.minute(0, 1900, 1, 1, hour, 0));
        }
        for (int minute : new int[] {LEAST_INT, -1, 60, GREATEST_INT}) {
            Due.refuses("minute " + minute, ARGUMENT, () -> x.minute(0, 1900, 1, 1, 0, minute));
        }
        Due.is("hour 23", x.minute(0, 1900, 1, 1, 23, 0), 23 * 60);
        Due.is("minute 59", x.minute(0, 1900, 1, 1, 0, 59), 59);
        Due.is("23:59", x.minute(0, 1900, 1, 1, 23, 59), (int) ChronoUnit.DAYS.getDuration().toMinutes() - 1);
    }

    private static void indexFirst() {
        Due.sentence("Terms", "Of several the first in this order. (the time's calls)");
        CalendarOrders x = new CalendarOrders();
        for (int n = 0; n < 20; n++) {
            x.change(0, n, 0);
        }
        Due.refuses("no zone, no offset", INDEX, () -> x.zone(4, 1440));
        Due.refuses("no zone, no minute, no offset", INDEX, () -> x.change(-1, -1, -1440));
        Due.refuses("no minute, full", ARGUMENT, () -> x.change(0, -1, 0));
        Due.refuses("no offset, full", ARGUMENT, () -> x.change(0, 20, -1440));
        Due.refuses("not behind, full", ARGUMENT, () -> x.change(0, 19, 0));
        Due.refuses("no zone, no minute, no what", INDEX, () -> x.civil(4, -1, 8));
        Due.refuses("no zone, no year", INDEX, () -> x.minute(4, 1898, 1, 1, 0, 0));
        Due.refuses("no zone, no month, no day", INDEX, () -> x.minute(-1, 2000, 0, 0, 24, 60));
    }
}
